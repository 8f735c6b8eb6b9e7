/-! ===== the kinds together, 4: transformations ===== -/
theorem cb_sym : ∀ {n k : Nat}, k ≤ n → cb n (n - k) = cb n k
  | n, 0, _ => by rw [Nat.sub_zero, cb_nn, cb_0]
  | n + 1, k + 1, h => by
    by_cases e : k = n
    · subst e; rw [Nat.sub_self, cb_0, cb_nn]
    · have h1 := cb_sym (n := n) (k := k) (by omega)
      have h2 := cb_sym (n := n) (k := k + 1) (by omega)
      rw [show n + 1 - (k + 1) = (n - (k + 1)) + 1 by omega, cb_s, h2, show n - (k + 1) + 1 = n - k by omega, h1, cb_s, Nat.add_comm]
theorem accS_v {n k : Nat} {b : Nat → Int32} (hb : AccS n k b) : (∀ i, i < k → b i = nI ((fun i => (b i).toNatClampNeg) i)) ∧ (∀ i, i < k → (fun i => (b i).toNatClampNeg) i < n) ∧ (∀ i j, j < i → i < k → (fun i => (b i).toNatClampNeg) j < (fun i => (b i).toNatClampNeg) i) :=
  ⟨fun i hi => (hb i hi).1, fun i hi => (hb i hi).2.1, fun i j hj hi => (hb i hi).2.2 j hj⟩
theorem op_trS {n k o : Nat} (hG : gok (0, n, k, o, 0)) {of : Nat → Int32} (hof : gof (0, n, k, o, 0) of) (b d L Z St S S2 m : Nat → Int32) : ∃ v oF b' L' Z' St' d' m' of' S1', fX9_transform_s b d (gf (0, n, k, o, 0)) L Z St = some (v, oF, b', L', Z', St', d') ∧ fX10_transform (nI 0) b m of S S2 = some (v, b', m', of', S1', S2) ∧ NF (0, n, k, o, 0) oF (nI 0) of' := by
  obtain ⟨hn, hk, ho, -⟩ := hG
  have hG : gok (0, n, k, o, 0) := ⟨hn, hk, ho, rfl⟩
  have hG' : gok (0, n, n - k, o, 0) := ⟨hn, by omega, ho, rfl⟩
  obtain ⟨v, L', Z', S', e1, e2, e3⟩ := u_holds hG hof b L Z S
  have e2 : fX10_isGood (nI 0) S b of = some (v, S') := e2
  unfold fX9_transform_s fX10_transform
  rw [e1, e2, Option.bind_some, Option.bind_some]
  dsimp only
  rcases e3 with rfl | ⟨rfl, e3⟩
  · rw [if_neg (by decide), if_neg (by decide)]
    exact ⟨_, _, _, _, _, _, _, _, _, _, rfl, rfl, _, hG, rfl, hof, Or.inl ⟨rfl, rfl⟩⟩
  · have e3 : AccS n k b := e3
    obtain ⟨a1, a2, a3⟩ := accS_v e3
    have o0 : of 0 = nI n := hof.1
    have o1 : of 1 = nI k := hof.2.1
    have o2 : of 2 = nI o := hof.2.2.1
    have o3 : of 3 = nI 0 := hof.2.2.2
    have hx := x_cpW (S1 := Z') (S2 := St) hk hn a1 a2 n 0 0 d FU (Nat.le_refl n) (by omega) (by omega) (FU_gt (by omega))
    have hm := m_cpW (nw := nI 0) hk hn o0 o1 a1 a2 n 0 0 m FU (Nat.le_refl n) (by omega) (by omega) (FU_gt (by omega))
    have hsp := cpW_spec hk a2 a3 n 0 0 d m (Nat.le_refl n) (by omega) (by omega) (fun _ => by omega) (fun j hj => by omega) (fun j hj => by omega)
    rw [Nat.sub_self] at hx hm
    generalize cpW n k (fun i => (b i).toNatClampNeg) n 0 0 d = w at *
    generalize cpW n k (fun i => (b i).toNatClampNeg) n 0 0 m = w' at *
    have hacc : AccS n (n - k) w := by
      intro i hi
      obtain ⟨q1, x, q2, q3, q4⟩ := hsp i hi
      rw [q3, q_cl (by omega)]
      refine ⟨rfl, q2, fun j hj => ?_⟩
      obtain ⟨y, y1, y2⟩ := q4 j hj
      rw [y2, q_cl (by omega)]; exact y1
    have hw : ∀ j, j < n - k → w' j = w j := fun j hj => (hsp j hj).1.symm
    have hof' : gof (0, n, n - k, o, 0) (upd of 1 (of 0 - of 1)) := by
      refine ⟨?_, ?_, ?_, ?_⟩
      · rw [upd_n (by omega)]; exact o0
      · rw [upd_s, o0, o1, q_sub hk]
      · rw [upd_n (by omega)]; exact o2
      · rw [upd_n (by omega)]; exact o3
    have hai := acc0_in (n := n) (k := n - k) (by omega) hn w L' Z' hacc
    have hst := q_stores (b := b) (d := w') (w := n - k) (by omega) (u_long hG' hof')
    have hst : fX10_stores (nI 0) b w' (upd of 1 (of 0 - of 1)) = some (chg w' b (n - k), fl w' b (n - k)) := hst
    have htk := q_take (b := b) (d := w) (w := n - k) (F := gf (0, n, n - k, o, 0)) (by omega) rfl
    have htf : fX6_turnedFamily (gf (0, n, k, o, 0)).2.2.1 (gf (0, n, k, o, 0)).2.2.2.1 (gf (0, n, k, o, 0)).2.2.2.2.1 (gf (0, n, k, o, 0)).2.2.2.2.2.1 = some (gf (0, n, n - k, o, 0)) := by
      show fX6_turnedFamily (nI k) (lN (cb n k)) (nI n) (nI o) = _
      unfold fX6_turnedFamily
      dsimp only [fX6_init, fX3_init_X6, Option.bind_some]
      rw [q_sub hk, ← cb_sym hk]; rfl
    have hvt : v_turn d (gf (0, n, k, o, 0)) b Z' St = some (w, Z', St) := by
      show fX6_turn d (nI k) (nI n) b Z' St = _
      unfold fX6_turn
      rw [l0]; exact hx
    have hva : v_accepts (gf (0, n, n - k, o, 0)) w L' Z' = some (1, L', Z') := hai
    have hcm := (show fX10_complements (nI 0) b m of = rk_it4 (fX10_complements_L22 (nI 0) b of) FU (nI 0) (nI 0) (nI 0) m from rfl).trans hm
    rw [if_pos (by decide), if_pos (by decide), if_pos (by decide), htf, Option.bind_some, hvt, Option.bind_some]
    dsimp only
    rw [hva, Option.bind_some]
    dsimp only
    rw [if_pos (by decide), hcm, hst, Option.bind_some, chg_cong hw, fl_cong hw]
    unfold fX9_transform_s_B74 fX9_transform_s_B93 fX10_complements_B96
    dsimp only
    rw [htk, Option.bind_some, Option.bind_some]
    dsimp only
    have hne : ((gf (0, n, n - k, o, 0)).2.2.1 = (gf (0, n, k, o, 0)).2.2.1) = (n - k = k) := by
      show (nI (n - k) = nI k) = _
      exact q_eq (by omega) (by omega)
    have hne2 : (of 1 = of 0 - of 1) = (k = n - k) := by
      rw [o0, o1, q_sub hk]; exact q_eq (by omega) (by omega)
    by_cases c : n - k = k
    · rw [if_pos (hne ▸ c), if_neg (show ¬ ¬ (0 : Int32) = 0 by decide)]
      rcases chg_01 w b (n - k) with h | h <;> rw [h]
      · rw [if_pos rfl, if_neg (show ¬ ¬ (0 : Int32) = 0 by decide), if_pos (hne2 ▸ c.symm), Option.bind_some]
        dsimp only
        rw [if_pos rfl]
        exact ⟨_, _, _, _, _, _, _, _, _, _, rfl, rfl, _, hG', rfl, hof', Or.inr rfl⟩
      · rw [if_neg (show ¬ (1 : Int32) = 0 by decide), if_pos (show ¬ (1 : Int32) = 0 by decide), Option.bind_some]
        dsimp only
        rw [if_neg (show ¬ (1 : Int32) = 0 by decide)]
        exact ⟨_, _, _, _, _, _, _, _, _, _, rfl, rfl, _, hG', rfl, hof', Or.inr rfl⟩
    · rw [if_neg (show ¬ (gf (0, n, n - k, o, 0)).2.2.1 = (gf (0, n, k, o, 0)).2.2.1 by rw [hne]; exact c), if_pos (show ¬ (1 : Int32) = 0 by decide), if_neg (show ¬ of 1 = of 0 - of 1 by rw [hne2]; omega), ite_self, Option.bind_some]
      dsimp only
      rw [if_neg (show ¬ (1 : Int32) = 0 by decide)]
      exact ⟨_, _, _, _, _, _, _, _, _, _, rfl, rfl, _, hG', rfl, hof', Or.inr rfl⟩
theorem u_accO {of : Nat → Int32} : ∀ {G : Gm}, gok G → G.1 ≠ 0 → gof G of → ∀ b L Z : Nat → Int32, ∃ (v : Int32) (L' Z' : Nat → Int32), v_accepts (gf G) b L Z = some (v, L', Z') ∧ (v = 0 ∧ ¬ gac G b ∨ v = 1 ∧ gac G b) := by
  rintro ⟨k, a, b, c, d⟩ h hk hof x L Z
  match k, h, hk, hof with
  | 0, h, hk, hof => exact absurd rfl hk
  | 1, h, hk, hof =>
    obtain ⟨v, e1, e2, e3⟩ := acc1 (n := a) h.2.1 x L Z of hof.1
    exact ⟨v, L, Z, e1, e3⟩
  | 2, h, hk, hof =>
    obtain ⟨v, S', e1, e2, e3⟩ := acc2 (tp := b) (p := a) h.2.2.1 h.2.1 x L Z of x hof.1 hof.2.1
    exact ⟨v, L, Z, e1, e3⟩
  | 3, h, hk, hof =>
    obtain ⟨v, Z', S', e1, e2, e3⟩ := acc3 (n := a) h.1 h.2.1 x L Z x of hof.1
    exact ⟨v, L, Z', e1, e3⟩
  | 4, h, hk, hof =>
    have := h.2.1; have := h.2.2.2.1
    obtain ⟨v, e1, e2, e3⟩ := acc4 (g := b) (n := a) (by omega) (by omega) x L Z of hof.1 hof.2.1
    exact ⟨v, L, Z, e1, e3⟩
  | 5, h, hk, hof =>
    obtain ⟨v, L', e1, e3⟩ := x_acc5 (c := c4 a b c d) h.2 x L Z
    exact ⟨v, L', Z, e1, e3⟩
  | _ + 6, h, hk, hof => exact h.elim
theorem tr_tail {G : Gm} (hG : gok G) {of : Nat → Int32} (hof : gof G of) {pa : Nat} {b w w' : Nat → Int32} {r34 : (Nat → Int32) × (Nat → Int32) × (Nat → Int32)} {r46 : Int32 × (Nat → Int32) × (Nat → Int32)} (h34 : r34.1 = w) (hw : ∀ j, j < gl G → w j = w' j) : ∃ v b', fX9_transform_o_B74 pa b (gf G) r34 r46 (0 : Int32) = some (v, pa, b', r46.2.1, r46.2.2, r34.2.2, w) ∧ ∀ S1 S2, fX10_transform_B108 (nI G.1) b of w' S1 S2 = some (v, b', w', of, S1, S2) := by
  have g3 := (gz_ok hG).2.2
  have hw' : ∀ j, j < gl G → w' j = w j := fun j hj => (hw j hj).symm
  unfold fX9_transform_o_B74 fX9_transform_o_B93 fX10_transform_B108
  rw [h34, q_take g3 (gf_w hG).1, q_stores g3 (u_long hG hof), Option.bind_some, chg_cong hw', fl_cong hw']
  dsimp only
  rw [if_neg (show ¬ ¬ (0 : Int32) = 0 by decide)]
  rcases chg_01 w b (gl G) with h | h <;> rw [h]
  · rw [if_pos rfl]
    exact ⟨_, _, rfl, fun S1 S2 => by rw [Option.bind_some, if_pos rfl]⟩
  · rw [if_neg (show ¬ (1 : Int32) = 0 by decide)]
    exact ⟨_, _, rfl, fun S1 S2 => by rw [Option.bind_some, if_neg (show ¬ (1 : Int32) = 0 by decide)]⟩
theorem op_trO : ∀ {G : Gm}, gok G → G.1 ≠ 0 → ∀ {of : Nat → Int32}, gof G of → ∀ (pa : Nat) (b d L Z St S S2 m : Nat → Int32), ∃ v b' L' Z' St' d' m' S1' S2', fX9_transform_o pa b d (gf G) L Z St = some (v, pa, b', L', Z', St', d') ∧ fX10_transform (nI G.1) b m of S S2 = some (v, b', m', of, S1', S2') := by
  intro G hG hk of hof pa b d L Z St S S2 m
  obtain ⟨v, L', Z', S', e1, e2, e3⟩ := u_holds hG hof b L Z S
  unfold fX9_transform_o fX10_transform
  rw [e1, e2, Option.bind_some, Option.bind_some]
  dsimp only
  rcases e3 with rfl | ⟨rfl, e3⟩
  · rw [if_neg (by decide), if_neg (by decide)]
    exact ⟨_, _, _, _, _, _, _, _, _, rfl, rfl⟩
  · rw [if_pos (by decide), if_pos (by decide)]
    -- the class, given the turned row
    have cls : ∀ w w' Z1 St1, v_turn d (gf G) b Z' St = some (w, Z1, St1) → gac G w → (∀ j, j < gl G → w j = w' j) → ∃ v b' L3 Z2, ((v_turn d (gf G) b Z' St).bind fun r_34 => (v_accepts (gf G) r_34.1 L' r_34.2.1).bind fun r_46 => if ¬ r_46.1 = 0 then (if (gf G).2.2.1 = (gf G).2.2.1 then fX9_transform_o_B74 pa b (gf G) r_34 r_46 (0 : Int32) else fX9_transform_o_B74 pa b (gf G) r_34 r_46 (1 : Int32)) else some ((-6 : Int32), pa, b, r_46.2.1, r_46.2.2, r_34.2.2, r_34.1)) = some (v, pa, b', L3, Z2, St1, w) ∧ ∀ S1 S2, fX10_transform_B108 (nI G.1) b of w' S1 S2 = some (v, b', w', of, S1, S2) := by
      intro w w' Z1 St1 t1 t2 t3
      obtain ⟨v, L2, Z2, f1, f2⟩ := u_accO hG hk hof w L' Z1
      rcases f2 with ⟨-, f2⟩ | ⟨rfl, -⟩
      · exact absurd t2 f2
      obtain ⟨v, b', q1, q2⟩ := tr_tail (pa := pa) (b := b) (r34 := (w, Z1, St1)) (r46 := (1, L2, Z2)) hG hof rfl t3
      refine ⟨v, b', L2, Z2, ?_, q2⟩
      rw [t1, Option.bind_some]
      dsimp only
      rw [f1, Option.bind_some]
      dsimp only
      rw [if_pos (show ¬ (1 : Int32) = 0 by decide), if_pos rfl]
      exact q1
    obtain ⟨kk, x1, x2, x3, x4⟩ := G
    match kk, hG, hk, hof, e3, cls with
    | 0, hG, hk, hof, e3, cls => exact absurd rfl hk
    | 1, hG, hk, hof, e3, cls =>
      obtain ⟨w, w', t1, t2, t3, t4⟩ := turn1 (n := x1) hG.2.1 (L := Z') (Z := St) e3 hof.1 d m
      obtain ⟨v, b', L2, Z2, q1, q2⟩ := cls w w' Z' St t1 t4 (fun j hj => (t3 j hj).1)
      dsimp only
      rw [if_neg (by decide), if_pos (by decide), t2, Option.bind_some]
      exact ⟨_, _, _, _, _, _, _, _, _, q1, q2 _ _⟩
    | 2, hG, hk, hof, e3, cls =>
      obtain ⟨w, w', t1, t2, t3, t4⟩ := turn2 (tp := x2) (p := x1) hG.2.2.1 hG.2.1 (L := Z') (Z := St) e3 hof.1 d m
      obtain ⟨v, b', L2, Z2, q1, q2⟩ := cls w w' Z' St t1 t4 (fun j hj => (t3 j hj).1)
      dsimp only
      rw [if_neg (by decide), if_neg (by decide), if_pos (by decide), t2, Option.bind_some]
      exact ⟨_, _, _, _, _, _, _, _, _, q1, q2 _ _⟩
    | 3, hG, hk, hof, e3, cls =>
      obtain ⟨w, w', Z1, St1, U1, U2, t1, t2, t3, t4⟩ := turn3 (n := x1) hG.1 hG.2.1 (Z := Z') (St := St) (S1 := S') (S2 := S2) e3 hof.1 d m
      obtain ⟨v, b', L2, Z2, q1, q2⟩ := cls w w' Z1 St1 t1 t4 t3
      dsimp only
      rw [if_neg (by decide), if_neg (by decide), if_neg (by decide), if_pos (by decide), t2, Option.bind_some]
      exact ⟨_, _, _, _, _, _, _, _, _, q1, q2 _ _⟩
    | 4, hG, hk, hof, e3, cls =>
      have := hG.2.2.2.1; have := hG.2.1
      obtain ⟨w, w', x, t1, t2, t3, t4, t5, t6⟩ := turn4 (g := x2) (n := x1) (by omega) hG.1 hG.2.1 (L := Z') (Z := St) e3 hof.1 d m
      have t1 : v_turn d (gf (4, x1, x2, x3, x4)) b Z' St = some (w, Z', St) := t1
      have o1 : of 1 = nI x2 := hof.2.1
      by_cases c : x ≤ x2
      · obtain ⟨v, b', L2, Z2, q1, q2⟩ := cls w w' Z' St t1 (t6.mpr c) t3
        dsimp only
        rw [if_neg (by decide), if_neg (by decide), if_neg (by decide), if_neg (by decide), if_pos (by decide), t2, Option.bind_some, t4, o1, if_pos (by rw [q_le (by omega) (by omega)]; exact c)]
        exact ⟨_, _, _, _, _, _, _, _, _, q1, q2 _ _⟩
      · obtain ⟨v, L2, Z2, f1, f2⟩ := u_accO hG hk hof w L' Z'
        rcases f2 with ⟨rfl, -⟩ | ⟨-, f2⟩
        · rw [t1, Option.bind_some]
          dsimp only
          rw [f1, Option.bind_some]
          dsimp only
          rw [if_neg (show ¬ ¬ (0 : Int32) = 0 by decide), if_neg (by decide), if_neg (by decide), if_neg (by decide), if_neg (by decide), if_pos (by decide), t2, Option.bind_some, t4, o1, if_neg (by rw [q_le (by omega) (by omega)]; exact c)]
          exact ⟨_, _, _, _, _, _, _, _, _, rfl, rfl⟩
        · exact absurd (t6.mp f2) c
    | 5, hG, hk, hof, e3, cls =>
      obtain ⟨w, w', t1, t2, t3, t4⟩ := turn5 (c := c4 x1 x2 x3 x4) hG.2 (L := Z') (Z := St) e3 (gof_L4 hof) d m
      obtain ⟨v, b', L2, Z2, q1, q2⟩ := cls w w' Z' St t1 t4 t3
      dsimp only
      rw [if_neg (by decide), if_neg (by decide), if_neg (by decide), if_neg (by decide), if_neg (by decide)]
      refine ⟨_, _, _, _, _, _, _, _, _, q1, (congrArg (fun z => Option.bind z _) t2).trans (q2 _ _)⟩
    | _ + 6, hG, hk, hof, e3, cls => exact hG.elim
theorem gk5 : ∀ {G : Gm}, gok G → G.1 ≤ 5 := by
  rintro ⟨k, a, x, y, z⟩ h
  match k, h with
  | 0, _ => show (0 : Nat) ≤ 5; omega
  | 1, _ => show (1 : Nat) ≤ 5; omega
  | 2, _ => show (2 : Nat) ≤ 5; omega
  | 3, _ => show (3 : Nat) ≤ 5; omega
  | 4, _ => show (4 : Nat) ≤ 5; omega
  | 5, _ => show (5 : Nat) ≤ 5; omega
  | _ + 6, h => exact h.elim
def SW (G : Gm) (X : Option (Int32 × Option Fm × (Nat → Int32) × (Nat → Int32) × (Nat → Int32) × (Nat → Int32) × (Nat → Int32))) (v : Int32) (nw' : Int32) (b' of' : Nat → Int32) : Prop := ∃ oF L' Z' St' d', X = some (v, oF, b', L', Z', St', d') ∧ NF G oF nw' of'
theorem op_toWord {B : Nat → Int64} (hB : TB B) {G : Gm} (hG : gok G) {of : Nat → Int32} (hof : gof G of) (b d L Z St S S2 m : Nat → Int32) : ∃ v nw' b' m' of' S1' S2', SW G (fX9_toWord b d (gf G) L Z St B) v nw' b' of' ∧ fX10_toWord (nI G.1) b m of S S2 = some (v, nw', b', m', of', S1', S2') := by
  have hk := gk5 hG
  have nf : ∀ {v : Int32} {b' L' Z' St' d' : Nat → Int32}, SW G (some (v, none, b', L', Z', St', d')) v (nI G.1) b' of := ⟨_, _, _, _, _, rfl, G, hG, rfl, hof, Or.inl ⟨rfl, rfl⟩⟩
  unfold fX9_toWord fX10_toWord
  rw [(gf_w hG).2.2.1]
  by_cases c : G.1 = 3
  · rw [if_neg (show ¬ ¬ nI G.1 = (3 : Int32) by rw [c]; decide), if_neg (show ¬ ¬ nI G.1 = (3 : Int32) by rw [c]; decide)]
    obtain ⟨k, n, x, y, z⟩ := G
    have c : k = 3 := c
    subst c
    have o0 : of 0 = nI n := hof.1
    have hn := hG.2.1
    rw [(gf_w hG).1, o0]
    show ∃ v nw' b' m' of' S1' S2', SW _ (if nI n ≤ _ then _ else _) v nw' b' of' ∧ _
    by_cases c2 : n ≤ 20
    · rw [if_pos (by rw [l20, q_le (by omega) (by omega)]; exact c2), if_pos (by rw [l20, q_le (by omega) (by omega)]; exact c2)]
      obtain ⟨v, L', Z', S', e1, e2, e3⟩ := u_holds hG hof b L Z S
      rw [e1, e2, Option.bind_some, Option.bind_some]
      dsimp only
      rcases e3 with rfl | ⟨rfl, e3⟩
      · rw [if_neg (by decide), if_neg (by decide)]
        exact ⟨_, _, _, _, _, _, _, nf, rfl⟩
      · obtain ⟨w, w', Z1, St1, U1, U2, t1, t2, t3⟩ := word3 (n := n) hG.1 c2 (Z := Z') (St := St) (S1 := S') (S2 := S2) e3 o0 d m
        have hW : gok (2, n, 1, 0, 0) := ⟨hG.1, c2, Or.inl rfl, rfl, rfl⟩
        have hof' := gof_upd of (2, n, 1, 0, 0)
        have t3' : ∀ j, j < 2 * n → w' j = w j := fun j hj => (t3 j hj).symm
        rw [o0] at t2
        rw [if_pos (by decide), if_pos (by decide), show gl (3, n, x, y, z) = n from rfl, t1, Option.bind_some, show (1 : Int32) = nI 1 from rfl, x_wordsOf hB c2 (Or.inl rfl), Option.bind_some]
        dsimp only
        rw [q_take (w := 2 * n) (by omega) rfl, Option.bind_some, ← l1, t2]
        unfold fX10_turnsTo
        rw [Option.bind_some]
        dsimp only
        have hst := q_stores (b := b) (d := w') (w := 2 * n) (by omega) (u_long hW hof')
        refine ⟨nI n, nI 2, fl w b (2 * n), w', _, U1, U2, ⟨_, _, _, _, _, rfl, (2, n, 1, 0, 0), hW, rfl, hof', Or.inr rfl⟩, ?_⟩
        refine (congrArg (fun z => Option.bind z _) hst).trans ?_
        rw [Option.bind_some, fl_cong t3']; rfl
    · rw [if_neg (by rw [l20, q_le (by omega) (by omega)]; exact c2), if_neg (by rw [l20, q_le (by omega) (by omega)]; exact c2)]
      exact ⟨_, _, _, _, _, _, _, nf, rfl⟩
  · rw [if_pos (by rw [l3, q_eq (by omega) (by omega)]; exact c), if_pos (by rw [l3, q_eq (by omega) (by omega)]; exact c)]
    exact ⟨_, _, _, _, _, _, _, nf, rfl⟩
theorem op_toTree {B : Nat → Int64} (hB : TK B) {G : Gm} (hG : gok G) {of : Nat → Int32} (hof : gof G of) (b d L Z St S m : Nat → Int32) : ∃ v nw' b' m' of' S1', SW G (fX9_toTree b d (gf G) L Z St B) v nw' b' of' ∧ fX10_toTree (nI G.1) b m of S = some (v, nw', b', m', of', S1') := by
  have hk := gk5 hG
  have nf : ∀ {v : Int32} {b' L' Z' St' d' : Nat → Int32}, SW G (some (v, none, b', L', Z', St', d')) v (nI G.1) b' of := ⟨_, _, _, _, _, rfl, G, hG, rfl, hof, Or.inl ⟨rfl, rfl⟩⟩
  unfold fX9_toTree fX10_toTree
  rw [(gf_w hG).2.2.1]
  by_cases c : G.1 = 2
  · rw [if_neg (by rw [c]; decide), if_neg (by rw [c]; decide), l1, u_set hG 1 (by omega), Option.bind_some]
    obtain ⟨k, n, x, y, z⟩ := G
    have c : k = 2 := c
    subst c
    have o0 : of 0 = nI n := hof.1
    have o1 : of 1 = nI x := hof.2.1
    have hn := hG.2.1
    have hx := hG.2.2.1
    rw [o1, show gp (2, n, x, y, z) 1 = x from rfl]
    by_cases c2 : x = 1
    · subst c2
      rw [if_pos rfl, if_pos rfl]
      obtain ⟨v, L', Z', S', e1, e2, e3⟩ := u_holds hG hof b L Z S
      rw [e1, e2, Option.bind_some, Option.bind_some]
      dsimp only
      rcases e3 with rfl | ⟨rfl, e3⟩
      · rw [if_neg (by decide), if_neg (by decide)]
        exact ⟨_, _, _, _, _, _, nf, rfl⟩
      · obtain ⟨w, w', St1, t1, t2, t3⟩ := tree2 (p := n) hn (St := St) e3 o0 (1, S') d m
        have hW : gok (3, n, 0, 0, 0) := ⟨hG.1, by omega, rfl, rfl, rfl⟩
        have hof' := gof_upd of (3, n, 0, 0, 0)
        have t3' : ∀ j, j < n → w' j = w j := fun j hj => (t3 j hj).symm
        rw [if_pos (by decide), if_pos (by decide), l0, u_set hG 0 (by omega), Option.bind_some, show gp (2, n, 1, y, z) 0 = n from rfl, t1, Option.bind_some, x_treesOf hB (by omega), Option.bind_some]
        dsimp only
        rw [q_take (w := n) (by omega) rfl, Option.bind_some, ← l0, t2]
        unfold fX10_turnsTo
        rw [Option.bind_some]
        dsimp only
        have hst := q_stores (b := b) (d := w') (w := n) (by omega) (u_long hW hof')
        refine ⟨nI n, nI 3, fl w b n, w', _, S', ⟨_, _, _, _, _, rfl, (3, n, 0, 0, 0), hW, rfl, hof', Or.inr rfl⟩, ?_⟩
        refine (congrArg (fun z => Option.bind z _) hst).trans ?_
        rw [Option.bind_some, fl_cong t3']; rfl
    · rw [if_neg (by rw [q_eq (by omega) (by omega)]; exact c2), if_neg (by rw [q_eq (by omega) (by omega)]; exact c2)]
      exact ⟨_, _, _, _, _, _, nf, rfl⟩
  · rw [if_pos (by rw [l2, q_eq (by omega) (by omega)]; exact c), if_pos (by rw [l2, q_eq (by omega) (by omega)]; exact c)]
    exact ⟨_, _, _, _, _, _, nf, rfl⟩
