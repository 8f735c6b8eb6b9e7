/-! ===== the kinds together, 6: sorting ===== -/
def enc (x : Gm × Nat) : Nat := ((((x.1.1 * 64 + x.1.2.1) * 64 + x.1.2.2.1) * 64 + x.1.2.2.2.1) * 64 + x.1.2.2.2.2) * 4611686018427387904 + x.2
theorem gok_bd : ∀ {G : Gm}, gok G → G.1 ≤ 5 ∧ G.2.1 ≤ 60 ∧ G.2.2.1 ≤ 60 ∧ G.2.2.2.1 ≤ 60 ∧ G.2.2.2.2 ≤ 60 := by
  rintro ⟨k, a, b, c, d⟩ h
  match k, h with
  | 0, h => obtain ⟨h1, h2, h3, h4⟩ := h; exact ⟨by show (0 : Nat) ≤ 5; omega, h1, by show b ≤ 60; omega, by show c ≤ 60; omega, by show d ≤ 60; omega⟩
  | 1, h => obtain ⟨h1, h2, h3, h4, h5⟩ := h; exact ⟨by show (1 : Nat) ≤ 5; omega, by show a ≤ 60; omega, by show b ≤ 60; omega, by show c ≤ 60; omega, by show d ≤ 60; omega⟩
  | 2, h => obtain ⟨h1, h2, h3, h4, h5⟩ := h; exact ⟨by show (2 : Nat) ≤ 5; omega, by show a ≤ 60; omega, by show b ≤ 60; omega, by show c ≤ 60; omega, by show d ≤ 60; omega⟩
  | 3, h => obtain ⟨h1, h2, h3, h4, h5⟩ := h; exact ⟨by show (3 : Nat) ≤ 5; omega, by show a ≤ 60; omega, by show b ≤ 60; omega, by show c ≤ 60; omega, by show d ≤ 60; omega⟩
  | 4, h => obtain ⟨h1, h2, h3, h4, h5, h6⟩ := h; exact ⟨by show (4 : Nat) ≤ 5; omega, by show a ≤ 60; omega, by show b ≤ 60; omega, by show c ≤ 60; omega, by show d ≤ 60; omega⟩
  | 5, h => obtain ⟨h1, h2⟩ := h; exact ⟨by show (5 : Nat) ≤ 5; omega, by show a ≤ 60; omega, by show b ≤ 60; omega, by show c ≤ 60; omega, by show d ≤ 60; omega⟩
  | _ + 6, h => exact h.elim
def OKx (x : Gm × Nat) : Prop := gok x.1 ∧ x.2 < gz x.1
theorem enc_inj {x y : Gm × Nat} (hx : OKx x) (hy : OKx y) (h : enc x = enc y) : x = y := by
  obtain ⟨a1, a2, a3, a4, a5⟩ := gok_bd hx.1
  obtain ⟨b1, b2, b3, b4, b5⟩ := gok_bd hy.1
  have a6 := (gz_ok hx.1).2.1
  have b6 := (gz_ok hy.1).2.1
  have a7 := hx.2
  have b7 := hy.2
  obtain ⟨⟨k, a, b, c, d⟩, r⟩ := x
  obtain ⟨⟨k', a', b', c', d'⟩, r'⟩ := y
  unfold enc at h
  dsimp only at *
  obtain rfl : r = r' := by omega
  obtain rfl : d = d' := by omega
  obtain rfl : c = c' := by omega
  obtain rfl : b = b' := by omega
  obtain rfl : a = a' := by omega
  obtain rfl : k = k' := by omega
  rfl
def sg (x y : Nat) (z : Int32) : Int32 := if x < y then -1 else if y < x then 1 else z
theorem sg_le {x y : Nat} {z : Int32} : sg x y z ≤ 0 ↔ x < y ∨ x = y ∧ z ≤ 0 := by
  unfold sg
  by_cases c : x < y
  · rw [if_pos c]; exact ⟨fun _ => Or.inl c, fun _ => by decide⟩
  · rw [if_neg c]
    by_cases c2 : y < x
    · rw [if_pos c2]; exact ⟨fun h => absurd h (by decide), fun h => by omega⟩
    · rw [if_neg c2]; exact ⟨fun h => Or.inr ⟨by omega, h⟩, fun h => by rcases h with h | h; omega; exact h.2⟩
theorem sg_if {x y : Nat} {z : Int32} : (if sg x y 0 = 0 then z else sg x y 0) = sg x y z := by
  unfold sg
  by_cases c : x < y
  · rw [if_pos c, if_pos c, if_neg (by decide)]
  · rw [if_neg c, if_neg c]
    by_cases c2 : y < x
    · rw [if_pos c2, if_pos c2, if_neg (by decide)]
    · rw [if_neg c2, if_neg c2, if_pos rfl]
theorem cmp32 {x y : Nat} (hx : x < 2147483648) (hy : y < 2147483648) : fJ6_compare_7cf53 (nI x) (nI y) = some (sg x y 0) := by
  unfold fJ6_compare_7cf53 sg
  by_cases c : x < y
  · rw [if_neg (by rw [q_le hy hx]; omega), if_pos c]
  · rw [if_pos (by rw [q_le hy hx]; omega), if_neg c]
    by_cases c2 : y < x
    · rw [if_pos (by rw [q_eq hx hy]; omega), if_pos c2]
    · rw [if_neg (by rw [q_eq hx hy]; omega), if_neg c2]
theorem cmp64 {x y : Nat} (hx : x < 9223372036854775808) (hy : y < 9223372036854775808) : fJ13_compare_74951 (lN x) (lN y) = some (sg x y 0) := by
  unfold fJ13_compare_74951 sg
  by_cases c : x < y
  · rw [if_neg (by rw [Q_le hy hx]; omega), if_pos c]
  · rw [if_pos (by rw [Q_le hy hx]; omega), if_neg c]
    by_cases c2 : y < x
    · rw [if_pos (by rw [Q_eq hx hy]; omega), if_pos c2]
    · rw [if_neg (by rw [Q_eq hx hy]; omega), if_neg c2]
def cs (p q : Nat → Nat) (z : Int32) : Nat → Int32
  | 0 => z
  | d + 1 => sg (p (4 - (d + 1))) (q (4 - (d + 1))) (cs p q z d)
theorem gp_bd {G : Gm} (h : gok G) {i : Nat} (hi : i < 4) : gp G i ≤ 60 := by
  obtain ⟨a1, a2, a3, a4, a5⟩ := gok_bd h
  have : i = 0 ∨ i = 1 ∨ i = 2 ∨ i = 3 := by omega
  rcases this with rfl | rfl | rfl | rfl
  · exact a2
  · exact a3
  · exact a4
  · exact a5
theorem x_cmp {LP : List Nat} {FP : Nat → Fm} {fa : Nat → Option Nat} {pl : Nat → Int64} {X : Nat → Gm × Nat} {u e : Nat} (hc : CE LP FP fa pl X u) (hu : u ≤ 10) (he : e + 1 < u) : ∃ c, fX0_compareEntries LP FP (nI u) fa pl (nI e) (nI (e + 1)) = some c ∧ (c ≤ 0 ↔ enc (X e) ≤ enc (X (e + 1))) := by
  obtain ⟨a1, a2, ⟨a, a3, a4, a5⟩, a6⟩ := hc e (by omega)
  obtain ⟨b1, b2, ⟨b, b3, b4, b5⟩, b6⟩ := hc (e + 1) he
  have z1 := (gz_ok a1).2.1
  have z2 := (gz_ok b1).2.1
  have key : ∀ d i f (o : Int32), i + d = 4 → d < f → rk_it2 (fX0_compareEntries_L41 pl (nI e) (nI (e + 1)) FP a b) f o (nI i) = some (if o = 0 then cs (gp (X e).1) (gp (X (e + 1)).1) (sg (X e).2 (X (e + 1)).2 0) d else o) := by
    intro d
    induction d with
    | zero =>
      intro i f o hi hf
      obtain ⟨f, rfl, -⟩ := suc_of hf
      rw [it2_s]
      unfold fX0_compareEntries_L41 fX0_compareEntries_B76
      rw [if_pos (by rw [l4, q_le (by omega) (by omega)]; omega)]
      by_cases c : o = 0
      · rw [if_pos c, if_pos c, x_plAt (by omega), Option.bind_some, x_plAt (by omega), Option.bind_some, a6, b6, cmp64 (by omega) (by omega), Option.bind_some]; rfl
      · rw [if_neg c, if_neg c]
    | succ d ih =>
      intro i f o hi hf
      obtain ⟨f, rfl, hf⟩ := suc_of hf
      have ih := fun o => ih (i + 1) f o (by omega) (by omega)
      rw [it2_s]
      generalize rk_it2 (fX0_compareEntries_L41 pl (nI e) (nI (e + 1)) FP a b) f = g at ih ⊢
      unfold fX0_compareEntries_L41 fX0_compareEntries_B76
      rw [if_neg (by rw [l4, q_le (by omega) (by omega)]; omega)]
      by_cases c : o = 0
      · have p1 := gp_bd a1 (i := i) (by omega)
        have p2 := gp_bd b1 (i := i) (by omega)
        rw [if_neg (fun z => z c), if_pos c, a5, b5, u_set a1 i (by omega), Option.bind_some, u_set b1 i (by omega), Option.bind_some, cmp32 (by omega) (by omega), Option.bind_some, l1, q_add, ih, sg_if]
        show some (sg (gp (X e).1 i) (gp (X (e + 1)).1 i) _) = some (sg (gp (X e).1 (4 - (d + 1))) (gp (X (e + 1)).1 (4 - (d + 1))) _)
        rw [show 4 - (d + 1) = i by omega]
      · rw [if_pos c, if_neg c, if_neg c]
  refine ⟨sg (X e).1.1 (X (e + 1)).1.1 (cs (gp (X e).1) (gp (X (e + 1)).1) (sg (X e).2 (X (e + 1)).2 0) 4), ?_, ?_⟩
  · have k1 := (gok_bd a1).1
    have k2 := (gok_bd b1).1
    unfold fX0_compareEntries
    rw [x_famAt (LP := LP) (FP := FP) (pl := pl) (X := X) hu (by omega), x_famAt (LP := LP) (FP := FP) (pl := pl) (X := X) hu he, Option.bind_some, a3]
    show (if a ∈ LP then _ else none) = _
    rw [if_pos a4, Option.bind_some, b3]
    show (if b ∈ LP then _ else none) = _
    rw [if_pos b4, a5, b5, (gf_w a1).2.2.1, (gf_w b1).2.2.1, cmp32 (by omega) (by omega), Option.bind_some, l0, key 4 0 FU _ (by omega) (FU_gt (by omega))]
    exact congrArg some sg_if
  · show sg _ _ (sg _ _ (sg _ _ (sg _ _ (sg _ _ (sg _ _ 0))))) ≤ 0 ↔ _
    rw [sg_le, sg_le, sg_le, sg_le, sg_le, sg_le]
    obtain ⟨c1, c2, c3, c4, c5⟩ := gok_bd a1
    obtain ⟨d1, d2, d3, d4, d5⟩ := gok_bd b1
    generalize X e = x at *
    generalize X (e + 1) = y at *
    obtain ⟨⟨k, p0, p1, p2, p3⟩, r⟩ := x
    obtain ⟨⟨k', q0, q1, q2, q3⟩, r'⟩ := y
    unfold enc
    show (k < k' ∨ k = k' ∧ (p0 < q0 ∨ p0 = q0 ∧ (p1 < q1 ∨ p1 = q1 ∧ (p2 < q2 ∨ p2 = q2 ∧ (p3 < q3 ∨ p3 = q3 ∧ (r < r' ∨ r = r' ∧ (0 : Int32) ≤ 0)))))) ↔ _
    dsimp only at *
    have t0 : (0 : Int32) ≤ 0 := by decide
    simp only [t0, and_true]
    omega
def bg (x y : Nat) (z : Int32) : Int32 := if x = y then z else if x ≤ y then 0 else 1
theorem bg_0 {x y : Nat} {z : Int32} : bg x y z = 0 ↔ x < y ∨ x = y ∧ z = 0 := by
  unfold bg
  by_cases c : x = y
  · rw [if_pos c]; exact ⟨fun h => Or.inr ⟨c, h⟩, fun h => by rcases h with h | h; omega; exact h.2⟩
  · rw [if_neg c]
    by_cases c2 : x ≤ y
    · rw [if_pos c2]; exact ⟨fun _ => Or.inl (by omega), fun _ => rfl⟩
    · rw [if_neg c2]; exact ⟨fun h => absurd h (by decide), fun h => by omega⟩
def bs (p q : Nat → Nat) (z : Int32) : Nat → Int32
  | 0 => z
  | d + 1 => bg (p (4 - (d + 1))) (q (4 - (d + 1))) (bs p q z d)
theorem m_cmp {eF eO : Nat → Int32} {eR : Nat → Int64} {X : Nat → Gm × Nat} {u e : Nat} (hm : ME eF eO eR X u) (ho : ∀ e, e < u → OKx (X e)) (hu : u ≤ 10) (he : e + 1 < u) : ∃ c, fX10_isBehind eF eO eR (nI e) = some c ∧ (c = 0 ↔ enc (X e) ≤ enc (X (e + 1))) := by
  obtain ⟨a1, a2⟩ := ho e (by omega)
  obtain ⟨b1, b2⟩ := ho (e + 1) he
  obtain ⟨m1, m2, m3⟩ := hm e (by omega)
  obtain ⟨n1, n2, n3⟩ := hm (e + 1) he
  have z1 := (gz_ok a1).2.1
  have z2 := (gz_ok b1).2.1
  have ee : nI e + 1 = nI (e + 1) := by rw [l1, q_add]
  have e4 : (4 : Int32) * nI e = nI (4 * e) := by rw [l4, q_mul]
  have key : ∀ d i f, i + d = 4 → d < f → rk_it1 (fX10_isBehind_L44 eO eR (nI e)) f (nI (4 * e + i)) = some (bs (gp (X e).1) (gp (X (e + 1)).1) (if (X e).2 ≤ (X (e + 1)).2 then 0 else 1) d) := by
    intro d
    induction d with
    | zero =>
      intro i f hi hf
      obtain ⟨f, rfl, -⟩ := suc_of hf
      rw [it1_s]
      unfold fX10_isBehind_L44
      rw [e4, l4, q_add, if_pos (by rw [q_le (by omega) (by omega)]; omega), ee, q_cl (by omega), q_cl (by omega), m3, n3]
      show _ = some (if (X e).2 ≤ (X (e + 1)).2 then 0 else 1)
      by_cases c : (X e).2 ≤ (X (e + 1)).2
      · rw [if_pos (show lN (X e).2 ≤ lN (X (e + 1)).2 by rw [Q_le (by omega) (by omega)]; exact c), if_pos c]
      · rw [if_neg (show ¬ lN (X e).2 ≤ lN (X (e + 1)).2 by rw [Q_le (by omega) (by omega)]; exact c), if_neg c]
    | succ d ih =>
      intro i f hi hf
      obtain ⟨f, rfl, hf⟩ := suc_of hf
      have ih := ih (i + 1) f (by omega) (by omega)
      rw [it1_s]
      generalize rk_it1 (fX10_isBehind_L44 eO eR (nI e)) f = g at ih ⊢
      have p1 := gp_bd a1 (i := i) (by omega)
      have p2 := gp_bd b1 (i := i) (by omega)
      have o1 := m2 i (by omega)
      have o2 := n2 i (by omega)
      rw [show 4 * (e + 1) + i = 4 * e + i + 4 by omega] at o2
      unfold fX10_isBehind_L44
      rw [e4, l4, q_add, if_neg (by rw [q_le (by omega) (by omega)]; omega), q_add, q_cl (a := 4 * e + i) (by omega), q_cl (a := 4 * e + i + 4) (by omega), if_neg (show ¬ (nI (4 * e + i) < 0 ∨ 40 ≤ 4 * e + i) by rw [l0, q_lt (by omega) (by omega)]; omega), if_neg (show ¬ (nI (4 * e + i + 4) < 0 ∨ 40 ≤ 4 * e + i + 4) by rw [l0, q_lt (by omega) (by omega)]; omega), o1, o2, show nI (4 * e + i) + 1 = nI (4 * e + (i + 1)) from by rw [l1, q_add]; rfl, ih]
      show _ = some (bg (gp (X e).1 (4 - (d + 1))) (gp (X (e + 1)).1 (4 - (d + 1))) _)
      rw [show 4 - (d + 1) = i by omega]
      unfold bg
      by_cases c : gp (X e).1 i = gp (X (e + 1)).1 i
      · rw [if_pos (by rw [c]), if_pos c]
      · rw [if_neg (show ¬ nI (gp (X e).1 i) = nI (gp (X (e + 1)).1 i) by rw [q_eq (by omega) (by omega)]; exact c), if_neg c]
        by_cases c2 : gp (X e).1 i ≤ gp (X (e + 1)).1 i
        · rw [if_pos (show nI (gp (X e).1 i) ≤ nI (gp (X (e + 1)).1 i) by rw [q_le (by omega) (by omega)]; exact c2), if_pos c2]
        · rw [if_neg (show ¬ nI (gp (X e).1 i) ≤ nI (gp (X (e + 1)).1 i) by rw [q_le (by omega) (by omega)]; exact c2), if_neg c2]
  refine ⟨bg (X e).1.1 (X (e + 1)).1.1 (bs (gp (X e).1) (gp (X (e + 1)).1) (if (X e).2 ≤ (X (e + 1)).2 then 0 else 1) 4), ?_, ?_⟩
  · have k1 := (gok_bd a1).1
    have k2 := (gok_bd b1).1
    unfold fX10_isBehind
    rw [ee, q_cl (a := e) (by omega), q_cl (a := e + 1) (by omega), if_neg (show ¬ (nI e < 0 ∨ 10 ≤ e) by rw [l0, q_lt (by omega) (by omega)]; omega), if_neg (show ¬ (nI (e + 1) < 0 ∨ 10 ≤ e + 1) by rw [l0, q_lt (by omega) (by omega)]; omega), m1, n1, e4, show nI (4 * e) = nI (4 * e + 0) from rfl, key 4 0 FU (by omega) (FU_gt (by omega))]
    show _ = some (bg _ _ _)
    unfold bg
    by_cases c : (X e).1.1 = (X (e + 1)).1.1
    · rw [if_pos (by rw [c]), if_pos c]
    · rw [if_neg (show ¬ nI (X e).1.1 = nI (X (e + 1)).1.1 by rw [q_eq (by omega) (by omega)]; exact c), if_neg c]
      by_cases c2 : (X e).1.1 ≤ (X (e + 1)).1.1
      · rw [if_pos (show nI (X e).1.1 ≤ nI (X (e + 1)).1.1 by rw [q_le (by omega) (by omega)]; exact c2), if_pos c2]
      · rw [if_neg (show ¬ nI (X e).1.1 ≤ nI (X (e + 1)).1.1 by rw [q_le (by omega) (by omega)]; exact c2), if_neg c2]
  · show bg _ _ (bg _ _ (bg _ _ (bg _ _ (bg _ _ (if (X e).2 ≤ (X (e + 1)).2 then 0 else 1))))) = 0 ↔ _
    rw [bg_0, bg_0, bg_0, bg_0, bg_0]
    have hr : ((if (X e).2 ≤ (X (e + 1)).2 then (0 : Int32) else 1) = 0) = ((X e).2 ≤ (X (e + 1)).2) := by
      by_cases c : (X e).2 ≤ (X (e + 1)).2
      · rw [if_pos c]; exact propext ⟨fun _ => c, fun _ => rfl⟩
      · rw [if_neg c]; exact propext ⟨fun h => absurd h (by decide), fun h => absurd h c⟩
    rw [hr]
    obtain ⟨c1, c2, c3, c4, c5⟩ := gok_bd a1
    obtain ⟨d1, d2, d3, d4, d5⟩ := gok_bd b1
    generalize X e = x at *
    generalize X (e + 1) = y at *
    obtain ⟨⟨k, p0, p1, p2, p3⟩, r⟩ := x
    obtain ⟨⟨k', q0, q1, q2, q3⟩, r'⟩ := y
    unfold enc
    show (k < k' ∨ k = k' ∧ (p0 < q0 ∨ p0 = q0 ∧ (p1 < q1 ∨ p1 = q1 ∧ (p2 < q2 ∨ p2 = q2 ∧ (p3 < q3 ∨ p3 = q3 ∧ r ≤ r'))))) ↔ _
    dsimp only at *
    omega
def sw (X : Nat → Gm × Nat) (e : Nat) : Nat → Gm × Nat := fun j => if j = e then X (e + 1) else if j = e + 1 then X e else X j
theorem sw_0 (X : Nat → Gm × Nat) (e : Nat) : sw X e e = X (e + 1) := if_pos rfl
theorem sw_1 (X : Nat → Gm × Nat) (e : Nat) : sw X e (e + 1) = X e := by unfold sw; rw [if_neg (by omega), if_pos rfl]
theorem sw_n {X : Nat → Gm × Nat} {e j : Nat} (h : j ≠ e) (h2 : j ≠ e + 1) : sw X e j = X j := by unfold sw; rw [if_neg h, if_neg h2]
theorem x_keep {a : Nat} {fa : Nat → Option Nat} {pl : Nat → Int64} {i : Nat} {v : Int64} (hi : i < 10) : fX0_keep a fa pl (nI i) v = some (va_up fa i (some a), vp_updL pl i v) := by
  unfold fX0_keep
  rw [if_neg (nI_neg (by omega)), if_neg (by rw [show (10 : Int32) = nI 10 from rfl, q_le (by omega) (by omega)]; omega), q_cl (by omega), if_neg (by rw [l0, q_lt (by omega) (by omega)]; omega), q_setL hi (by omega), Option.bind_some]
theorem x_exch {LP : List Nat} {FP : Nat → Fm} {fa : Nat → Option Nat} {pl : Nat → Int64} {X : Nat → Gm × Nat} {u e : Nat} (hc : CE LP FP fa pl X u) (hu : u ≤ 10) (he : e + 1 < u) : ∃ fa' pl', fX0_exchange LP (nI u) fa pl (nI e) (nI (e + 1)) = some (fa', pl') ∧ CE LP FP fa' pl' (sw X e) u := by
  obtain ⟨a1, a2, ⟨a, a3, a4, a5⟩, a6⟩ := hc e (by omega)
  obtain ⟨b1, b2, ⟨b, b3, b4, b5⟩, b6⟩ := hc (e + 1) he
  refine ⟨va_up (va_up fa e (some b)) (e + 1) (some a), vp_updL (vp_updL pl e (pl (e + 1))) (e + 1) (pl e), ?_, ?_⟩
  · unfold fX0_exchange
    rw [x_famAt (LP := LP) (FP := FP) (pl := pl) (X := X) hu (by omega), x_famAt (LP := LP) (FP := FP) (pl := pl) (X := X) hu he, Option.bind_some, a3]
    show (if a ∈ LP then _ else none) = _
    rw [if_pos a4, x_plAt (by omega), Option.bind_some, Option.bind_some, b3]
    show (if b ∈ LP then _ else none) = _
    rw [if_pos b4, x_plAt (by omega), Option.bind_some, x_keep (by omega), Option.bind_some]
    dsimp only
    rw [x_keep (by omega), Option.bind_some]
  · intro j hj
    by_cases c1 : j = e + 1
    · subst c1
      rw [sw_1]
      exact ⟨a1, a2, ⟨a, by unfold va_up; exact if_pos rfl, a4, a5⟩, by rw [updL_s]; exact a6⟩
    · by_cases c2 : j = e
      · subst c2
        rw [sw_0]
        exact ⟨b1, b2, ⟨b, by unfold va_up; rw [if_neg c1, if_pos rfl], b4, b5⟩, by rw [updL_n c1, updL_s]; exact b6⟩
      · obtain ⟨h1, h2, ⟨x, h3, h4, h5⟩, h6⟩ := hc j hj
        rw [sw_n c2 c1]
        exact ⟨h1, h2, ⟨x, by unfold va_up; rw [if_neg c1, if_neg c2]; exact h3, h4, h5⟩, by rw [updL_n c1, updL_n c2]; exact h6⟩
theorem m_exch {eF eO : Nat → Int32} {eR : Nat → Int64} {X : Nat → Gm × Nat} {u e : Nat} (hm : ME eF eO eR X u) (hu : u ≤ 10) (he : e + 1 < u) : ∃ eF' eO' eR', fX10_exchange eF eO eR (nI e) = some (eF', eO', eR') ∧ ME eF' eO' eR' (sw X e) u := by
  obtain ⟨m1, m2, m3⟩ := hm e (by omega)
  obtain ⟨n1, n2, n3⟩ := hm (e + 1) he
  have ee : nI e + 1 = nI (e + 1) := by rw [l1, q_add]
  have e4 : (4 : Int32) * nI e = nI (4 * e) := by rw [l4, q_mul]
  obtain ⟨x, eO', k, ⟨rfl, o1, o2, o3⟩, h⟩ := lpG2 (fX10_exchange_L65 eF eR (nI e)) (fun j a o => a = nI (4 * e + j) ∧ (∀ i, i < 4 → o (4 * e + i) = if i < j then eO (4 * e + 4 + i) else eO (4 * e + i)) ∧ (∀ i, i < 4 → o (4 * e + 4 + i) = if i < j then eO (4 * e + i) else eO (4 * e + 4 + i)) ∧ ∀ m, m < 4 * e ∨ 4 * e + 8 ≤ m → o m = eO m) 4 (by
    rintro j a o hj ⟨rfl, o1, o2, o3⟩
    refine ⟨_, upd (upd o (4 * e + j) (o (4 * e + 4 + j))) (4 * e + 4 + j) (o (4 * e + j)), ⟨rfl, fun i hi => ?_, fun i hi => ?_, fun m hm => ?_⟩, fun g => ?_⟩
    · rw [upd_n (by omega)]
      by_cases c : i = j
      · subst c; rw [upd_s, o2 i hi, if_neg (by omega), if_pos (by omega)]
      · rw [upd_n (by omega), o1 i hi]
        by_cases c2 : i < j
        · rw [if_pos c2, if_pos (by omega)]
        · rw [if_neg c2, if_neg (by omega)]
    · by_cases c : i = j
      · subst c; rw [upd_s, o1 i hi, if_neg (by omega), if_pos (by omega)]
      · rw [upd_n (by omega), upd_n (by omega), o2 i hi]
        by_cases c2 : i < j
        · rw [if_pos c2, if_pos (by omega)]
        · rw [if_neg c2, if_neg (by omega)]
    · rw [upd_n (by omega), upd_n (by omega)]; exact o3 m hm
    · unfold fX10_exchange_L65
      rw [e4, l4, q_add, if_neg (by rw [q_le (by omega) (by omega)]; omega), q_add, show 4 * e + j + 4 = 4 * e + 4 + j by omega, q_cl (a := 4 * e + j) (by omega), q_cl (a := 4 * e + 4 + j) (by omega), if_neg (show ¬ (nI (4 * e + j) < 0 ∨ 40 ≤ 4 * e + j) by rw [l0, q_lt (by omega) (by omega)]; omega), if_neg (show ¬ (nI (4 * e + 4 + j) < 0 ∨ 40 ≤ 4 * e + 4 + j) by rw [l0, q_lt (by omega) (by omega)]; omega), l1, q_add]
      rfl) 4 0 (nI (4 * e + 0)) eO FU (by omega) (FU_gt (by omega)) ⟨rfl, fun i hi => by rw [if_neg (by omega)], fun i hi => by rw [if_neg (by omega)], fun m _ => rfl⟩
  refine ⟨upd (upd eF e (eF (e + 1))) (e + 1) (eF e), eO', vp_updL (vp_updL eR e (eR (e + 1))) (e + 1) (eR e), ?_, ?_⟩
  · unfold fX10_exchange
    rw [ee, q_cl (a := e) (by omega), q_cl (a := e + 1) (by omega), if_neg (show ¬ (nI e < 0 ∨ 10 ≤ e) by rw [l0, q_lt (by omega) (by omega)]; omega), if_neg (show ¬ (nI (e + 1) < 0 ∨ 10 ≤ e + 1) by rw [l0, q_lt (by omega) (by omega)]; omega), e4]
    refine Eq.trans (by rfl) (h.trans ?_)
    unfold fX10_exchange_L65
    rw [e4, l4, q_add, if_pos (by rw [q_le (by omega) (by omega)]; omega), ee, q_cl (a := e) (by omega), q_cl (a := e + 1) (by omega)]
  · intro j hj
    by_cases c1 : j = e + 1
    · subst c1
      rw [sw_1]
      refine ⟨by rw [upd_s]; exact m1, fun i hi => ?_, by rw [updL_s]; exact m3⟩
      rw [show 4 * (e + 1) + i = 4 * e + 4 + i by omega, o2 i hi, if_pos hi]; exact m2 i hi
    · by_cases c2 : j = e
      · subst c2
        rw [sw_0]
        refine ⟨by rw [upd_n c1, upd_s]; exact n1, fun i hi => ?_, by rw [updL_n c1, updL_s]; exact n3⟩
        rw [o1 i hi, if_pos hi, show 4 * j + 4 + i = 4 * (j + 1) + i by omega]; exact n2 i hi
      · obtain ⟨h1, h2, h3⟩ := hm j hj
        rw [sw_n c2 c1]
        refine ⟨by rw [upd_n c1, upd_n c2]; exact h1, fun i hi => ?_, by rw [updL_n c1, updL_n c2]; exact h3⟩
        rw [o3 _ (by omega)]; exact h2 i hi
