/-! ===== pure part 17: arrangements, laid and reversed ===== -/
def pk (c : Nat → Nat) (r : Nat) : Nat := if r < ls c 1 then 0 else if r < ls c 2 then 1 else if r < ls c 3 then 2 else 3
theorem arr_spec {c : Nat → Nat} {r : Nat} (h : r < ls c 4) : pk c r < 4 ∧ ls c (pk c r) ≤ r ∧ r < ls c (pk c r + 1) := by
  unfold pk
  by_cases c1 : r < ls c 1
  · rw [if_pos c1]; exact ⟨by omega, Nat.zero_le r, c1⟩
  · rw [if_neg c1]
    by_cases c2 : r < ls c 2
    · rw [if_pos c2]; exact ⟨by omega, by omega, c2⟩
    · rw [if_neg c2]
      by_cases c3 : r < ls c 3
      · rw [if_pos c3]; exact ⟨by omega, by omega, c3⟩
      · rw [if_neg c3]; exact ⟨by omega, by omega, h⟩
def sr (c : Nat → Nat) (r : Nat) : Nat → Nat × (Nat → Nat)
  | 0 => (r, c)
  | i + 1 => ((sr c r i).1 - ls (sr c r i).2 (pk (sr c r i).2 (sr c r i).1), dn (sr c r i).2 (pk (sr c r i).2 (sr c r i).1))
theorem arr_mu {c : Nat → Nat} {r : Nat} (hs : 0 < sm c) (h : r < mu c) : pk c r < 4 ∧ ls c (pk c r) ≤ r ∧ r < ls c (pk c r) + wy c (pk c r) ∧ c (pk c r) ≠ 0 ∧ r - ls c (pk c r) < mu (dn c (pk c r)) ∧ sm (dn c (pk c r)) + 1 = sm c := by
  rw [mu_wy hs] at h
  obtain ⟨h1, h2, h3⟩ := arr_spec h
  rw [ls_s] at h3
  have h4 : c (pk c r) ≠ 0 := by
    intro z
    unfold wy at h3
    rw [if_pos z] at h3
    omega
  refine ⟨h1, h2, h3, h4, ?_, sm_dn h1 h4⟩
  unfold wy at h3
  rw [if_neg h4] at h3
  omega
theorem sr_ok {c : Nat → Nat} {r : Nat} (h : r < mu c) : ∀ i, i ≤ sm c → (sr c r i).1 < mu (sr c r i).2 ∧ sm (sr c r i).2 + i = sm c
  | 0, _ => ⟨h, rfl⟩
  | i + 1, hi => by
    obtain ⟨h1, h2⟩ := sr_ok h i (by omega)
    obtain ⟨-, -, -, -, h3, h4⟩ := arr_mu (by omega) h1
    exact ⟨h3, by show sm (dn _ _) + (i + 1) = _; omega⟩
theorem lay5 {c : Nat → Nat} (h1s : 1 ≤ sm c) (hs : sm c ≤ 20) {B T : Nat → Int64} (hB : TB B) (hT : TC T) {L L' Z of : Nat → Int32} {R : Nat → Int64} (hof : L4 of c) {r : Nat} (hr : r < mu c) (a a' : Nat → Int32) : ∃ w w' L1 L2, fX1_lay a (nI (sm c)) (nI (c 0)) (nI (c 1)) (nI (c 2)) (nI (c 3)) L R Z B (lN r) = some (w, L1, R, Z) ∧ fX10_makesArrangement (nI 5) L' a' T of (lN r) = some (L2, w') ∧ Same (sm c) 4 w w' := by
  obtain ⟨K0, e0, k0⟩ := x_letters hs L
  obtain ⟨K0', e0', k0'⟩ := m_letters hof L'
  have hok := sr_ok hr
  obtain ⟨x, y, w, L1, m, ⟨rfl, rfl, k1, k2⟩, h⟩ := lpG4 (fX1_lay_L15 (nI (sm c)) R Z B) (fun i x y w L => x = lN (sr c r i).1 ∧ y = nI i ∧ (∀ j, j < i → w j = nI (pk (sr c r j).2 (sr c r j).1)) ∧ L4 L (sr c r i).2) (sm c) (by
    rintro i x y w L hi ⟨rfl, rfl, hw, hL⟩
    obtain ⟨o1, o2⟩ := hok i (by omega)
    have o3 := mu_lt (c := (sr c r i).2) (by omega)
    obtain ⟨p1, p2, p3, p4, p5, p6⟩ := arr_mu (by omega) o1
    have p8 := wy_le (c := (sr c r i).2) p1 (by omega)
    refine ⟨_, _, upd w i (nI (pk (sr c r i).2 (sr c r i).1)), upd L (pk (sr c r i).2 (sr c r i).1) (nI ((sr c r i).2 (pk (sr c r i).2 (sr c r i).1) - 1)), ⟨rfl, rfl, fun j hj => ?_, L4_dn hL p4 p1⟩, fun g => ?_⟩
    · by_cases e : j = i
      · subst e; rw [upd_s]
      · rw [upd_n e]; exact hw j (by omega)
    · obtain ⟨x, y, z, M, ⟨rfl, rfl, rfl, rfl⟩, h⟩ := lpK4 (fun q => fX1_lay_L30 B (nI i) w q) (fun l x y z M => x = lN ((sr c r i).1 - ls (sr c r i).2 l) ∧ y = nI l ∧ z = nI l ∧ M = L) (pk (sr c r i).2 (sr c r i).1) (by
        rintro l x y z M hl ⟨rfl, rfl, rfl, rfl⟩
        have q1 := ls_mono (c := (sr c r i).2) (x := l + 1) (y := pk (sr c r i).2 (sr c r i).1) (by omega)
        rw [ls_s] at q1
        refine ⟨_, _, _, _, ⟨rfl, rfl, rfl, rfl⟩, fun q g => ?_⟩
        unfold fX1_lay_L30
        rw [if_neg (by rw [l3, q_le (by omega) (by omega)]; omega), x_ways hB hL (by omega) (by omega), Option.bind_some, if_pos (by rw [Q_le (by omega) (by omega)]; omega), l1, q_add, Q_sub (by omega), ls_s, Nat.sub_sub]) (pk (sr c r i).2 (sr c r i).1) 0 (lN (sr c r i).1) (nI 0) (nI 0) L FU (by omega) (FU_gt (by omega)) ⟨rfl, rfl, rfl, rfl⟩
      obtain ⟨m, h⟩ := h g
      have e1 := x_chg (L := M) p1 (-1)
      have p7 := sm_x (c := (sr c r i).2) p1
      rw [hL _ p1, q_m1 (by omega)] at e1
      unfold fX1_lay_L15
      rw [if_neg (by rw [q_le (by omega) (by omega)]; omega), l0, h]
      unfold fX1_lay_L30
      have e2 : fX1_lay_B75 (nI i) w g (lN ((sr c r i).1 - ls (sr c r i).2 (pk (sr c r i).2 (sr c r i).1))) (nI (pk (sr c r i).2 (sr c r i).1)) M = g (lN (sr c r (i + 1)).1) (nI (i + 1)) (upd w i (nI (pk (sr c r i).2 (sr c r i).1))) (upd M (pk (sr c r i).2 (sr c r i).1) (nI ((sr c r i).2 (pk (sr c r i).2 (sr c r i).1) - 1))) := by
        unfold fX1_lay_B75
        rw [q_set (by omega) (by omega), Option.bind_some, e1, Option.bind_some, l1, q_add]
        rfl
      by_cases c3 : pk (sr c r i).2 (sr c r i).1 = 3
      · rw [if_pos (by rw [l3, q_le (by omega) (by omega)]; omega)]; exact e2
      · rw [if_neg (by rw [l3, q_le (by omega) (by omega)]; omega), x_ways hB hL (by omega) p1, Option.bind_some, if_neg (by rw [Q_le (by omega) (by omega)]; omega)]; exact e2) (sm c) 0 (lN r) (nI 0) a K0 FU (by omega) (FU_gt (by omega)) ⟨rfl, rfl, fun j hj => by omega, k0⟩
  obtain ⟨x, y, L2, w', m', ⟨rfl, rfl, k1', k2'⟩, h'⟩ := lpG4 (fX10_makesArrangement_L9 (nI 5) T of) (fun i x y L w => x = lN (sr c r i).1 ∧ y = nI i ∧ (∀ j, j < i → w j = nI (pk (sr c r j).2 (sr c r j).1)) ∧ L4 L (sr c r i).2) (sm c) (by
    rintro i x y L w hi ⟨rfl, rfl, hw, hL⟩
    obtain ⟨o1, o2⟩ := hok i (by omega)
    have o3 := mu_lt (c := (sr c r i).2) (by omega)
    obtain ⟨p1, p2, p3, p4, p5, p6⟩ := arr_mu (by omega) o1
    have p8 := wy_le (c := (sr c r i).2) p1 (by omega)
    refine ⟨_, _, upd L (pk (sr c r i).2 (sr c r i).1) (nI ((sr c r i).2 (pk (sr c r i).2 (sr c r i).1) - 1)), upd w i (nI (pk (sr c r i).2 (sr c r i).1)), ⟨rfl, rfl, fun j hj => ?_, L4_dn hL p4 p1⟩, fun g => ?_⟩
    · by_cases e : j = i
      · subst e; rw [upd_s]
      · rw [upd_n e]; exact hw j (by omega)
    · obtain ⟨x, y, M, ⟨rfl, rfl, rfl⟩, h⟩ := lpK3 (fun q => fX10_makesArrangement_L21 T (nI i) w q) (fun l x y M => x = lN ((sr c r i).1 - ls (sr c r i).2 l) ∧ y = nI l ∧ M = L) (pk (sr c r i).2 (sr c r i).1) (by
        rintro l x y M hl ⟨rfl, rfl, rfl⟩
        have q1 := ls_mono (c := (sr c r i).2) (x := l + 1) (y := pk (sr c r i).2 (sr c r i).1) (by omega)
        rw [ls_s] at q1
        refine ⟨_, _, _, ⟨rfl, rfl, rfl⟩, fun q g => ?_⟩
        unfold fX10_makesArrangement_L21
        rw [m_ways hT hL (by omega) (by omega), Option.bind_some, if_neg (by rw [Q_lt (by omega) (by omega)]; omega), m_ways hT hL (by omega) (by omega), Option.bind_some, l1, q_add, Q_sub (by omega), ls_s, Nat.sub_sub]) (pk (sr c r i).2 (sr c r i).1) 0 (lN (sr c r i).1) (nI 0) L FU (by omega) (FU_gt (by omega)) ⟨rfl, rfl, rfl⟩
      obtain ⟨m, h⟩ := h g
      have p7 := sm_x (c := (sr c r i).2) p1
      have g1 : ¬ (nI i < 0 ∨ 60 ≤ i) := by rw [l0, q_lt (by omega) (by omega)]; omega
      have g2 : ¬ (nI (pk (sr c r i).2 (sr c r i).1) < 0 ∨ 4 ≤ pk (sr c r i).2 (sr c r i).1) := by rw [l0, q_lt (by omega) (by omega)]; omega
      unfold fX10_makesArrangement_L9
      rw [m_long5 hof, Option.bind_some, if_neg (by rw [q_le (by omega) (by omega)]; omega), l0, h]
      unfold fX10_makesArrangement_L21
      rw [m_ways hT hL (by omega) p1, Option.bind_some]
      dsimp only
      rw [if_pos (by rw [Q_lt (by omega) (by omega)]; omega), q_cl (by omega), if_neg g1, q_cl (by omega), if_neg g2, hL _ p1, l1, q_sub (by omega), q_add]
      rfl) (sm c) 0 (lN r) (nI 0) K0' a' FU (by omega) (FU_gt (by omega)) ⟨rfl, rfl, fun j hj => by omega, k0'⟩
  refine ⟨w, w', L1, L2, ?_, ?_, fun j hj => ⟨by rw [k1 j hj, k1' j hj], _, ?_, k1 j hj⟩⟩
  · unfold fX1_lay
    rw [e0, Option.bind_some, l0, h]
    unfold fX1_lay_L15
    rw [if_pos (by rw [q_le (by omega) (by omega)]; omega)]
  · unfold fX10_makesArrangement
    rw [e0', Option.bind_some, l0, h']
    unfold fX10_makesArrangement_L9
    rw [m_long5 hof, Option.bind_some, if_pos (by rw [q_le (by omega) (by omega)]; omega)]
  · obtain ⟨o1, o2⟩ := hok j (by omega)
    exact (arr_mu (by omega) o1).1
-- reversed
theorem cn_rev {v u : Nat → Nat} {n x : Nat} (h : ∀ j, j < n → u j = v (n - 1 - j)) : ∀ k, k ≤ n → cn u x k + cn v x (n - k) = cn v x n
  | 0, _ => by show 0 + cn v x (n - 0) = cn v x n; rw [Nat.sub_zero, Nat.zero_add]
  | k + 1, hk => by
    have ih := cn_rev (x := x) h k (by omega)
    rw [show n - k = n - (k + 1) + 1 by omega, cn_s] at ih
    rw [cn_s, h k (by omega), show n - 1 - k = n - (k + 1) by omega]
    omega
theorem cn_cong {v u : Nat → Nat} {x : Nat} : ∀ {n}, (∀ j, j < n → u j = v j) → cn u x n = cn v x n
  | 0, _ => rfl
  | n + 1, h => by rw [cn_s, cn_s, h n (by omega), cn_cong (fun j hj => h j (by omega))]
theorem accA_cong {c : Nat → Nat} {b b' : Nat → Int32} (h : ∀ j, j < sm c → b j = b' j) (hb : AccA c b) : AccA c b' :=
  ⟨fun i hi => by rw [← h i hi]; exact hb.1 i hi, fun x hx => by rw [← hb.2 x hx]; exact cn_cong (fun j hj => by rw [h j hj])⟩
theorem turn5 {c : Nat → Nat} (hs : sm c ≤ 20) {b L Z of : Nat → Int32} (hb : AccA c b) (hof : L4 of c) (a a' : Nat → Int32) : ∃ w w', fX1_turn a (nI (sm c)) b L Z = some (w, L, Z) ∧ fX10_reverses (nI 5) a' b of = some w' ∧ (∀ j, j < sm c → w j = w' j) ∧ AccA c w := by
  have stp : ∀ (a : Nat → Int32) i, i < sm c → (∀ j, j < i → a j = b (sm c - 1 - j)) → ∀ j, j < i + 1 → upd a i (b (sm c - 1 - i)) j = b (sm c - 1 - j) := by
    intro a i hi ha j hj
    by_cases e : j = i
    · subst e; rw [upd_s]
    · rw [upd_n e]; exact ha j (by omega)
  unfold fX1_turn fX10_reverses
  obtain ⟨k, w, q, ⟨rfl, hw⟩, h⟩ := lpG2 (fX1_turn_L3 (nI (sm c)) b L Z) (fun i k a => k = nI i ∧ ∀ j, j < i → a j = b (sm c - 1 - j)) (sm c) (by
    rintro i k a hi ⟨rfl, ha⟩
    refine ⟨_, _, ⟨rfl, stp a i hi ha⟩, fun g => ?_⟩
    unfold fX1_turn_L3
    rw [if_neg (by rw [q_le (by omega) (by omega)]; omega), l1, q_sub (by omega), q_sub (by omega), q_at (by omega) (by omega), Option.bind_some, q_set (by omega) (by omega), Option.bind_some, q_add]) (sm c) 0 (nI 0) a FU (by omega) (FU_gt (by omega)) ⟨rfl, fun j hj => by omega⟩
  obtain ⟨k, w', q', ⟨rfl, hw'⟩, h'⟩ := lpG2 (fX10_reverses_L2 (nI 5) b of) (fun i k a => k = nI i ∧ ∀ j, j < i → a j = b (sm c - 1 - j)) (sm c) (by
    rintro i k a hi ⟨rfl, ha⟩
    refine ⟨_, _, ⟨rfl, stp a i hi ha⟩, fun g => ?_⟩
    have g1 : ¬ (nI i < 0 ∨ 60 ≤ i) := by rw [l0, q_lt (by omega) (by omega)]; omega
    have g2 : ¬ (nI (sm c - 1 - i) < 0 ∨ 60 ≤ sm c - 1 - i) := by rw [l0, q_lt (by omega) (by omega)]; omega
    unfold fX10_reverses_L2
    rw [m_long5 hof, Option.bind_some, if_neg (by rw [q_le (by omega) (by omega)]; omega), Option.bind_some, l1, q_sub (by omega), q_sub (by omega), q_cl (by omega), q_cl (by omega), if_neg g2, if_neg g1, q_add]) (sm c) 0 (nI 0) a' FU (by omega) (FU_gt (by omega)) ⟨rfl, fun j hj => by omega⟩
  rw [l0, h, h']
  refine ⟨w, w', ?_, ?_, fun j hj => by rw [hw j hj, hw' j hj], fun i hi => ?_, fun x hx => ?_⟩
  · unfold fX1_turn_L3; rw [if_pos (by rw [q_le (by omega) (by omega)]; omega)]
  · unfold fX10_reverses_L2; rw [m_long5 hof, Option.bind_some, if_pos (by rw [q_le (by omega) (by omega)]; omega)]
  · rw [hw i hi]; exact hb.1 _ (by omega)
  · rw [← hb.2 x hx]
    have := cn_rev (v := fun i => l4n (b i)) (u := fun i => l4n (w i)) (n := sm c) (x := x) (fun j hj => by rw [hw j hj]) (sm c) (Nat.le_refl _)
    rw [Nat.sub_self] at this
    exact this
