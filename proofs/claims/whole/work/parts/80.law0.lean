/-! ===== the law, 1: what the tables say at its entry ===== -/
theorem law_V {s : State} {b : Nat} (hts : ∀ w ∈ lw_tbl, w.before #[Value.ref b] s = true) : ∃ (D : va_G) (cI cJ cO : ClassId), rk_V D (rk_TY cI cJ cO) s := by
  have ht1 : ∀ w ∈ tables_1, w.before #[Value.ref b] s = true := fun w h => hts w (List.mem_append_right _ h)
  have hc : ∀ w ∈ rk_c, w.before #[Value.ref b] s = true := fun w h => hts w (List.mem_filter.mp h).1
  obtain ⟨c0, i0, h0⟩ := u_known (C := RX0) (T := TX0) (N := 4) (n := 4) hc inX0 (ht1 _ (rk_t1 (List.mem_of_getElem? (i := 86) (by decide +kernel))))
  obtain ⟨c1, i1, h1⟩ := u_known (C := RX1) (T := TX1) (N := 7) (n := 7) hc inX1 (ht1 _ (rk_t1 (List.mem_of_getElem? (i := 189) (by decide +kernel))))
  obtain ⟨c2, i2, h2⟩ := u_known (C := RX2) (T := TX2) (N := 7) (n := 7) hc inX2 (ht1 _ (rk_t1 (List.mem_of_getElem? (i := 24) (by decide +kernel))))
  obtain ⟨c3, i3, h3⟩ := u_known (C := RX4) (T := TX4) (N := 4) (n := 4) hc inX4 (ht1 _ (rk_t2 (List.mem_of_getElem? (i := 130) (by decide +kernel))))
  obtain ⟨c4, i4, h4⟩ := u_known (C := RX5) (T := TX5) (N := 4) (n := 4) hc inX5 (ht1 _ (rk_t1 (List.mem_of_getElem? (i := 223) (by decide +kernel))))
  obtain ⟨c5, i5, h5⟩ := u_known (C := RX6) (T := TX6) (N := 5) (n := 5) hc inX6 (ht1 _ (rk_t1 (List.mem_of_getElem? (i := 109) (by decide +kernel))))
  obtain ⟨c6, i6, h6⟩ := u_known (C := RX7) (T := TX7) (N := 3) (n := 3) hc inX7 (ht1 _ (rk_t2 (List.mem_of_getElem? (i := 115) (by decide +kernel))))
  obtain ⟨c7, i7, h7⟩ := u_known (C := RX8) (T := TX8) (N := 5) (n := 5) hc inX8 (ht1 _ (rk_t2 (List.mem_of_getElem? (i := 38) (by decide +kernel))))
  obtain ⟨c8, i8, h8⟩ := u_known (C := RX9) (T := TX9) (N := 5) (n := 5) hc inX9 (ht1 _ (rk_t1 (List.mem_of_getElem? (i := 16) (by decide +kernel))))
  obtain ⟨c9, i9, h9⟩ := u_known (C := RX10) (T := TX10) (N := 17) (n := 17) hc inX10 (ht1 _ (rk_t3 (List.mem_of_getElem? (i := 225) (by decide +kernel))))
  obtain ⟨cI, kI, oI, fI, gI, eI⟩ := Cond.arrayClass_spec (type := .int) (ht1 _ (rk_t1 (List.mem_of_getElem? (i := 83) (by decide +kernel))))
  obtain ⟨cJ, kJ, oJ, fJ, gJ, eJ⟩ := Cond.arrayClass_spec (type := .long) (ht1 _ (rk_t1 (List.mem_of_getElem? (i := 84) (by decide +kernel))))
  have hao := ht1 (Cond.arrayOver (.object "EnumerativeCoder$Family")) (rk_t1 (List.mem_of_getElem? (i := 92) (by decide +kernel)))
  obtain ⟨oO, cO, kO, pO, -, gO, eO, fO⟩ := Cond.arrayOver_spec hao
  refine ⟨(fun k => if k = 0 then c0 else if k = 1 then c1 else if k = 2 then c2 else if k = 3 then c3 else if k = 4 then c4 else if k = 5 then c5 else if k = 6 then c6 else if k = 7 then c7 else if k = 8 then c8 else c9, fun k => if k = 0 then i0 else if k = 1 then i1 else if k = 2 then i2 else if k = 3 then i3 else if k = 4 then i4 else if k = 5 then i5 else if k = 6 then i6 else if k = 7 then i7 else if k = 8 then i8 else i9), cI, cJ, cO, ⟨?_, ?_⟩, ?_, hao⟩
  · intro k q hq
    match k, hq with
    | 0, hq => cases hq; exact h0
    | 1, hq => cases hq; exact h1
    | 2, hq => cases hq; exact h2
    | 3, hq => cases hq; exact h3
    | 4, hq => cases hq; exact h4
    | 5, hq => cases hq; exact h5
    | 6, hq => cases hq; exact h6
    | 7, hq => cases hq; exact h7
    | 8, hq => cases hq; exact h8
    | 9, hq => cases hq; exact h9
    | k + 10, hq => simp [vwCl] at hq
  · intro k q hq
    match k, hq with
    | 0, hq => cases hq; exact ⟨fun n z => ⟨fun k h => (by cases h), kI, gI, oI, eI⟩, fI⟩
    | 1, hq => cases hq; exact ⟨fun n z => ⟨fun k h => (by cases h), kJ, gJ, oJ, eJ⟩, fJ⟩
    | 2, hq => cases hq; exact ⟨fun n z => ⟨fun k h => (by cases h), kO, gO, oO, eO⟩, kO, oO, gO, eO, pO, fO⟩
    | k + 3, hq => simp at hq
  · exact fun w hw => va_tabs (rk_isN_tab (List.mem_filter.mp hw).2) rfl (ht1 w (List.mem_filter.mp hw).1)
/-! ===== the law, 2: calls over a world with the pool behind it ===== -/
section LW
variable {p : Program} {l : Launch} {e : Env} {R : Room} {s : State} {m : MethodId} {args : Array Value} {below : List Frame} {meth : Method} {c : Code} {H H0 : Heap} {locs : List Loc} {cells slots : Nat} {Q : State → Prop} {D : va_G} {TY : List (ClassId × FieldType)} {X pl PL wc rc wr : va_W} {A : Nat → Prop} {av : List Value} {pc mc ms : Nat} {ls : Array Slot} {st0 rest : List Value} {a : Array Value}
theorem lw_pre (hP : va_P D vwCl (X ++ pl) H) (hD : va_D A (X ++ pl)) (hV : rk_V D TY s) (isC : List Nat) (hC : isC.map (fun i => X[i]?) = wc.map some) (hnd : va_nd isC = true) (hrc : ∀ q ∈ rc, (∃ i, X[i]? = some q ∧ i ∉ isC) ∨ q ∈ pl) (hPL : PL = pl ∨ PL = []) : PreS s H (va_Pc av (rk_B D TY wc rc PL H.size)) av := by
  have hin : ∀ {i : Nat} {q : Nat × va_E}, X[i]? = some q → (X ++ pl)[i]? = some q := fun {i q} h => by rw [List.getElem?_append_left (List.getElem?_eq_some_iff.mp h).1]; exact h
  have hpl : ∀ {q : Nat × va_E}, q ∈ pl → ∃ j, (X ++ pl)[X.length + j]? = some q := fun {q} h => by
    obtain ⟨j, hj⟩ := List.getElem?_of_mem h
    exact ⟨j, by rw [List.getElem?_append_right (by omega), Nat.add_sub_cancel_left]; exact hj⟩
  have hwc : ∀ (k : Nat) (q : Nat × va_E), wc[k]? = some q → ∃ i, i ∈ isC ∧ X[i]? = some q := fun k q h => by
    obtain ⟨i, h1, h2⟩ := va_in_of isC hC h
    exact ⟨i, List.mem_of_getElem? h1, h2⟩
  have hrc' : ∀ q ∈ rc, va_at D vwCl q H ∧ ∀ (j : Nat) (p : Nat × va_E), wc[j]? = some p → p.1 ≠ q.1 := by
    intro q hq
    rcases hrc q hq with ⟨i, h1, h2⟩ | h1
    · refine ⟨hP i q (hin h1), fun j p hj e => ?_⟩
      obtain ⟨k, h3, h4⟩ := hwc j p hj
      have := hD.1 k i p q (hin h4) (hin h1) e
      exact h2 (this ▸ h3)
    · obtain ⟨j0, h2⟩ := hpl h1
      refine ⟨hP _ q h2, fun j p hj e => ?_⟩
      obtain ⟨k, h3, h4⟩ := hwc j p hj
      have := hD.1 k _ p q (hin h4) h2 e
      have := (List.getElem?_eq_some_iff.mp h4).1
      omega
  have hPL' : ∀ q ∈ PL, va_at D vwCl q H ∧ ∀ (j : Nat) (p : Nat × va_E), wc[j]? = some p → p.1 ≠ q.1 := by
    intro q hq
    rcases hPL with rfl | rfl
    · obtain ⟨j0, h2⟩ := hpl hq
      refine ⟨hP _ q h2, fun j p hj e => ?_⟩
      obtain ⟨k, h3, h4⟩ := hwc j p hj
      have := hD.1 k _ p q (hin h4) h2 e
      have := (List.getElem?_eq_some_iff.mp h4).1
      omega
    · cases hq
  have hDw : va_D (fun _ => True) wc := by
    have h0 : va_D A (wc ++ pl) := hD.part isC hnd hC
    refine ⟨fun i j p q hi hj e => h0.1 i j p q ?_ ?_ e, fun _ _ _ => trivial⟩
    · rw [List.getElem?_append_left (List.getElem?_eq_some_iff.mp hi).1]; exact hi
    · rw [List.getElem?_append_left (List.getElem?_eq_some_iff.mp hj).1]; exact hj
  refine ⟨rk_blind, fun U hU hW => ⟨rfl, by rw [hU], ?_, hDw, ?_, ?_, ?_, ?_, hV.warm hW⟩⟩
  · rw [hU]; intro k q hk
    obtain ⟨i, -, h2⟩ := hwc k q hk
    exact hP i q (hin h2)
  · rw [hU]; intro k q hk
    exact (hrc' q (List.mem_of_getElem? hk)).1
  · intro k q hk j p hj
    exact (hrc' q (List.mem_of_getElem? hk)).2 j p hj
  · rw [hU]; intro k q hk
    exact (hPL' q (List.mem_of_getElem? hk)).1
  · intro k q hk j p hj
    exact (hPL' q (List.mem_of_getElem? hk)).2 j p hj
theorem lw_fr (hD : va_D A (X ++ pl)) (hS : va_S A H0 H locs) (hA : ∀ q : Nat, H0.size ≤ q → A q) (isC : List Nat) (hC : isC.map (fun i => X[i]?) = wc.map some) : ∀ q, va_A wc H.size q → A q := by
  intro q h
  rcases h with ⟨k, e, h⟩ | h
  · obtain ⟨i, h1, h2⟩ := va_in_of isC hC h
    have h3 : (X ++ pl)[i]? = some (q, e) := by rw [List.getElem?_append_left (List.getElem?_eq_some_iff.mp h2).1]; exact h2
    exact hD.2 i _ h3
  · exact hA q (Nat.le_trans hS.1 h)
theorem lw_i {w1 X' : va_W} {v : Int32} (hr : va_Run p l e R s m args below meth c H locs cells slots mc ms (F0 m pc ls st0) rest (rk_Qi v D w1 wc H.size a) (va_A wc H.size)) (hP : va_P D vwCl (X ++ pl) H) (hD : va_D A (X ++ pl)) (hS : va_S A H0 H locs) (hA : ∀ q : Nat, H0.size ≤ q → A q) (isC isR perm : List Nat) (hC : isC.map (fun i => X[i]?) = wc.map some) (hr2 : isR.map (fun i => X[i]?) = wr.map some) (hnd : va_nd isR = true) (hdis : ∀ i ∈ isR, i ∉ isC) (hp : perm.map (fun i => (wr ++ w1)[i]?) = X'.map some) (hpn : va_nd perm = true)
    (kk : ∀ (H1 : Heap) (locs1 : List Loc), va_P D vwCl (X' ++ pl) H1 → va_D A (X' ++ pl) → va_S A H0 H1 locs1 → W p l e R s m args below meth c H1 locs1 (cells + mc) (slots + ms) Q (F0 m (pc + 3) ls (.int v :: rest))) : W p l e R s m args below meth c H locs cells slots Q (F0 m pc ls st0) := by
  have hFc := lw_fr hD hS hA isC hC
  refine va_calli hr hS (fun q _ h => hFc q h) hFc (fun r u t H1 locs ht hvm hw hB hz1 hk1 hS => ?_)
  obtain ⟨hP1, hD1⟩ := hB
  rw [ht] at hP1
  subst hw
  obtain ⟨hP, hD⟩ := va_joinQ hP hD isC isR hC hr2 hnd hdis hk1 hFc hP1 hD1
  exact kk H1 locs (hP.part perm hp) (hD.part perm hpn hp) hS
theorem lw_l {w1 X' : va_W} {v : Int64} (hr : va_Run p l e R s m args below meth c H locs cells slots mc ms (F0 m pc ls st0) rest (rk_Ql v D w1 wc H.size a) (va_A wc H.size)) (hP : va_P D vwCl (X ++ pl) H) (hD : va_D A (X ++ pl)) (hS : va_S A H0 H locs) (hA : ∀ q : Nat, H0.size ≤ q → A q) (isC isR perm : List Nat) (hC : isC.map (fun i => X[i]?) = wc.map some) (hr2 : isR.map (fun i => X[i]?) = wr.map some) (hnd : va_nd isR = true) (hdis : ∀ i ∈ isR, i ∉ isC) (hp : perm.map (fun i => (wr ++ w1)[i]?) = X'.map some) (hpn : va_nd perm = true)
    (kk : ∀ (H1 : Heap) (locs1 : List Loc), va_P D vwCl (X' ++ pl) H1 → va_D A (X' ++ pl) → va_S A H0 H1 locs1 → W p l e R s m args below meth c H1 locs1 (cells + mc) (slots + ms) Q (F0 m (pc + 3) ls (.long v :: rest))) : W p l e R s m args below meth c H locs cells slots Q (F0 m pc ls st0) := by
  have hFc := lw_fr hD hS hA isC hC
  refine va_calll hr hS (fun q _ h => hFc q h) hFc (fun r u t H1 locs ht hvm hw hB hz1 hk1 hS => ?_)
  obtain ⟨hP1, hD1⟩ := hB
  rw [ht] at hP1
  subst hw
  obtain ⟨hP, hD⟩ := va_joinQ hP hD isC isR hC hr2 hnd hdis hk1 hFc hP1 hD1
  exact kk H1 locs (hP.part perm hp) (hD.part perm hpn hp) hS
theorem lw_push {LP : List Nat} {FP : Nat → Fm} {z : Nat} {F : Fm} (hP : va_P D vwCl ((X ++ [(z, rk_fam F)]) ++ rk_pl LP FP) H) (hD : va_D A ((X ++ [(z, rk_fam F)]) ++ rk_pl LP FP)) : z ∉ LP ∧ va_P D vwCl (X ++ rk_pl (LP ++ [z]) (va_up FP z F)) H ∧ va_D A (X ++ rk_pl (LP ++ [z]) (va_up FP z F)) := by
  have hz : z ∉ LP := by
    intro h
    obtain ⟨j, hj⟩ := List.getElem?_of_mem (show (z, rk_fam (FP z)) ∈ rk_pl LP FP from List.mem_map.mpr ⟨z, h, rfl⟩)
    have h1 : ((X ++ [(z, rk_fam F)]) ++ rk_pl LP FP)[X.length]? = some (z, rk_fam F) := by
      rw [List.getElem?_append_left (by rw [List.length_append]; exact Nat.lt_succ_self _), List.getElem?_append_right (Nat.le_refl _), Nat.sub_self]; rfl
    have h2 : ((X ++ [(z, rk_fam F)]) ++ rk_pl LP FP)[(X ++ [(z, rk_fam F)]).length + j]? = some (z, rk_fam (FP z)) := by
      rw [List.getElem?_append_right (by omega), Nat.add_sub_cancel_left]; exact hj
    have h3 := hD.1 _ _ _ _ h1 h2 rfl
    rw [List.length_append] at h3
    have : [(z, rk_fam F)].length = 1 := rfl
    omega
  have e : (X ++ rk_pl LP FP) ++ [(z, rk_fam F)] = X ++ rk_pl (LP ++ [z]) (va_up FP z F) := by
    rw [List.append_assoc]
    show X ++ (va_pl LP (fun a => rk_fam (FP a)) ++ [(z, rk_fam F)]) = _
    rw [va_pl_push hz]
    show X ++ va_pl _ _ = X ++ va_pl _ _
    congr 2
    funext q
    unfold va_up
    split <;> rfl
  refine ⟨hz, ?_, ?_⟩
  · rw [← e]; exact hP.swap
  · rw [← e]; exact hD.swap
theorem lw_ie {oF : Option Fm} {wb X' : Nat → va_W} {v : Int32} {pa : Nat} {LP : List Nat} {FP : Nat → Fm} (hr : va_Run p l e R s m args below meth c H locs cells slots mc ms (F0 m pc ls st0) rest (rk_Qie v D (fun q => wb (rk_pn oF pa (q 0)) ++ rk_nc oF (q 0)) wc H.size a) (va_A wc H.size)) (hP : va_P D vwCl (X ++ rk_pl LP FP) H) (hD : va_D A (X ++ rk_pl LP FP)) (hS : va_S A H0 H locs) (hA : ∀ q : Nat, H0.size ≤ q → A q) (isC isR perm : List Nat) (hC : isC.map (fun i => X[i]?) = wc.map some) (hr2 : isR.map (fun i => X[i]?) = wr.map some) (hnd : va_nd isR = true) (hdis : ∀ i ∈ isR, i ∉ isC) (hp : ∀ z, perm.map (fun i => (wr ++ wb z)[i]?) = (X' z).map some) (hpn : va_nd perm = true)
    (kk : ∀ (pa' : Nat) (LP' : List Nat) (FP' : Nat → Fm) (H1 : Heap) (locs1 : List Loc), (oF = none → pa' = pa) → (∀ F, oF = some F → pa' ∈ LP' ∧ FP' pa' = F) → (∀ z ∈ LP, z ∈ LP' ∧ FP' z = FP z) → va_P D vwCl (X' pa' ++ rk_pl LP' FP') H1 → va_D A (X' pa' ++ rk_pl LP' FP') → va_S A H0 H1 locs1 → W p l e R s m args below meth c H1 locs1 (cells + mc) (slots + ms) Q (F0 m (pc + 3) ls (.int v :: rest))) : W p l e R s m args below meth c H locs cells slots Q (F0 m pc ls st0) := by
  have hFc := lw_fr hD hS hA isC hC
  refine va_calli hr hS (fun q _ h => hFc q h) hFc (fun r q t H1 locs ht hvm hw hB hz1 hk1 hS => ?_)
  obtain ⟨hP1, hD1⟩ := hB
  rw [ht] at hP1
  subst hw
  cases oF with
  | none =>
    have hP1 : va_P D vwCl (wb pa ++ []) H1 := hP1
    have hD1 : va_D (va_A wc H.size) (wb pa ++ []) := hD1
    rw [List.append_nil] at hP1 hD1
    obtain ⟨hP, hD⟩ := va_joinQ hP hD isC isR hC hr2 hnd hdis hk1 hFc hP1 hD1
    exact kk pa LP FP H1 locs (fun _ => rfl) (fun F h => by cases h) (fun z hz => ⟨hz, rfl⟩) (hP.part perm (hp pa)) (hD.part perm hpn (hp pa)) hS
  | some F =>
    have hP1 : va_P D vwCl (wb (q 0) ++ [(q 0, rk_fam F)]) H1 := hP1
    have hD1 : va_D (va_A wc H.size) (wb (q 0) ++ [(q 0, rk_fam F)]) := hD1
    generalize q 0 = z at *
    obtain ⟨hP, hD⟩ := va_joinQ hP hD isC isR hC hr2 hnd hdis hk1 hFc hP1 hD1
    rw [← List.append_assoc wr] at hP hD
    obtain ⟨hz, hP, hD⟩ := lw_push hP hD
    refine kk z _ _ H1 locs (fun h => by cases h) (fun F' h => ?_) (fun y hy => ?_) (hP.part perm (hp z)) (hD.part perm hpn (hp z)) hS
    · cases h
      exact ⟨List.mem_append_right _ (List.mem_singleton.mpr rfl), va_up_self _ _ _⟩
    · exact ⟨List.mem_append_left _ hy, va_up_ne _ _ (fun e => hz (e ▸ hy))⟩
end LW
theorem RA_more {LP LP' : List Nat} {FP FP' : Nat → Fm} {us em : Int32} {pr : Int64} {fa : Nat → Option Nat} {pl eR : Nat → Int64} {eF eO : Nat → Int32} (h : RA LP FP us pr fa pl em eF eO eR) (hm : ∀ z ∈ LP, z ∈ LP' ∧ FP' z = FP z) : RA LP' FP' us pr fa pl em eF eO eR := by
  obtain ⟨X, u, h1, h2, h3, h4, h5, h6, h7⟩ := h
  refine ⟨X, u, h1, h2, h3, h4, h5, fun e he => ?_, h7⟩
  obtain ⟨a1, a2, ⟨a, a3, a4, a5⟩, a6⟩ := h6 e he
  obtain ⟨b1, b2⟩ := hm a a4
  exact ⟨a1, a2, ⟨a, a3, b1, b2.trans a5⟩, a6⟩
theorem NF_use {LP LP' : List Nat} {FP FP' : Nat → Fm} {pa pa' : Nat} {G : Gm} {oF : Option Fm} {nw : Int32} {of : Nat → Int32} (h : NF G oF nw of) (hpa : pa ∈ LP) (hfp : FP pa = gf G) (h1 : oF = none → pa' = pa) (h2 : ∀ F, oF = some F → pa' ∈ LP' ∧ FP' pa' = F) (h3 : ∀ z ∈ LP, z ∈ LP' ∧ FP' z = FP z) : ∃ G', gok G' ∧ nw = nI G'.1 ∧ gof G' of ∧ pa' ∈ LP' ∧ FP' pa' = gf G' := by
  obtain ⟨G', g1, g2, g3, ⟨g4, g5⟩ | g4⟩ := h
  · have e := h1 g4
    subst g5; subst e
    obtain ⟨a, b⟩ := h3 _ hpa
    exact ⟨G', g1, g2, g3, a, b.trans hfp⟩
  · obtain ⟨a, b⟩ := h2 _ g4
    exact ⟨G', g1, g2, g3, a, b⟩
theorem and31 (y : Int32) : ∃ j : Nat, j < 32 ∧ y &&& 31 = nI j := by
  have h : (y &&& 31).toBitVec.toNat ≤ 31 := by
    show (y.toBitVec &&& (31 : Int32).toBitVec).toNat ≤ 31
    rw [BitVec.toNat_and]
    exact Nat.and_le_right
  refine ⟨(y &&& 31).toBitVec.toNat, by omega, ?_⟩
  apply Int32.toBitVec_inj.mp
  apply BitVec.eq_of_toNat_eq
  show (y &&& 31).toBitVec.toNat = (y &&& 31).toBitVec.toNat % 4294967296
  omega
theorem op_family {G : Gm} (hG : gok G) : ∃ v, fX9_family (gf G) = some v ∧ fX10_family (nI G.1) = some v := ⟨_, rfl, congrArg some (gf_w hG).2.2.1.symm⟩
theorem op_length {G : Gm} (hG : gok G) {of : Nat → Int32} (hof : gof G of) : ∃ v, fX9_length (gf G) = some v ∧ fX10_length (nI G.1) of = some v := by
  refine ⟨_, rfl, ?_⟩
  unfold fX10_length
  rw [u_long hG hof, Option.bind_some, (gf_w hG).1]
theorem op_count {B T F K P C V : Nat → Int64} {Q : Nat → Int32} (ht : TT B T F K P C Q V) {G : Gm} (hG : gok G) {of : Nat → Int32} (hof : gof G of) : ∃ v, fX9_count (gf G) = some v ∧ fX10_count (nI G.1) K T C F of P = some v := by
  refine ⟨_, rfl, ?_⟩
  unfold fX10_count
  rw [u_many ht.2.2.1 ht.2.2.2.1 ht.2.2.2.2.1 ht.2.2.2.2.2.1 ht.2.2.2.2.2.2.1 hG hof, Option.bind_some, (gf_w hG).2.1]
