/-! ===== pure part 13: permutations, the rest ===== -/
theorem m_ins {m p : Nat} (hm : m < 20) (hp : p ≤ m) (a : Nat → Int32) (v : Int32) : ∃ w, fX10_insert a (nI m) (nI p) v = some w ∧ ∀ j, j ≤ m → w j = if j < p then a j else if j = p then v else a (j - 1) := by
  unfold fX10_insert
  obtain ⟨c, a1, q, ⟨rfl, ha⟩, h⟩ := lpG2 (fX10_insert_L3 (nI p) v) (fun k c w => c = nI (m - k) ∧ ∀ j, j ≤ m → w j = if m - k < j then a (j - 1) else a j) (m - p) (by
    rintro k c w hk ⟨rfl, hw⟩
    refine ⟨_, upd w (m - k) (a (m - k - 1)), ⟨rfl, fun j hj => ?_⟩, fun g => ?_⟩
    · by_cases e : j = m - k
      · subst e; rw [upd_s, if_pos (by omega)]
      · rw [upd_n e, hw j hj]
        by_cases c : m - k < j
        · rw [if_pos c, if_pos (by omega)]
        · rw [if_neg c, if_neg (by omega)]
    · have e := hw (m - k - 1) (by omega)
      rw [if_neg (by omega)] at e
      have g1 : ¬ (nI (m - k - 1) < 0 ∨ 60 ≤ m - k - 1) := by rw [l0, q_lt (by omega) (by omega)]; omega
      have g2 : ¬ (nI (m - k) < 0 ∨ 60 ≤ m - k) := by rw [l0, q_lt (by omega) (by omega)]; omega
      unfold fX10_insert_L3
      rw [if_neg (by rw [q_le (by omega) (by omega)]; omega), q_m1 (by omega), l1, q_sub (by omega), q_cl (by omega), q_cl (by omega), if_neg g1, if_neg g2, e, show m - k - 1 = m - (k + 1) by omega]) (m - p) 0 (nI m) a FU (by omega) (FU_gt (by omega)) ⟨rfl, fun j hj => by rw [if_neg (by omega)]⟩
  rw [h]
  have g1 : ¬ (nI p < 0 ∨ 60 ≤ p) := by rw [l0, q_lt (by omega) (by omega)]; omega
  refine ⟨upd a1 p v, ?_, fun j hj => ?_⟩
  · unfold fX10_insert_L3
    rw [if_pos (by rw [q_le (by omega) (by omega)]; omega), q_cl (by omega), if_neg g1]
  · rcases Nat.lt_trichotomy j p with c | c | c
    · rw [if_pos c, upd_n (by omega), ha j hj, if_neg (by omega)]
    · subst c; rw [if_neg (by omega), if_pos rfl, upd_s]
    · rw [if_neg (by omega), if_neg (by omega), upd_n (by omega), ha j hj, if_pos (by omega)]
theorem m_pl {n r : Nat} (h1n : 1 ≤ n) (hn : n ≤ 20) (hr : r < 9223372036854775808) (a of : Nat → Int32) (S : Nat → Int64) (h0 : of 0 = nI n) (h1 : of 1 = nI 1) : ∃ w S', fX10_makesPermutation a S of (lN r) = some (w, S') ∧ ∀ j, j < n → w j = nI (PI (tv n r) n j) := by
  unfold fX10_makesPermutation
  rw [if_pos (by rw [h1, l0, q_eq (by omega) (by omega)]; omega), h0]
  obtain ⟨x, c, S', q, ⟨rfl, rfl, hS⟩, h⟩ := lpG3 (fX10_makesPermutation_L116 a of) (fun k x c S => x = lN (dv n r k) ∧ c = nI (n - 1 - k) ∧ ∀ m, n - 1 - k < m → m < n → S m = lN (dv n r (n - 1 - m))) (n - 1) (by
    rintro k x c S hk ⟨rfl, rfl, hS⟩
    have hd := dv_le n r k
    refine ⟨_, _, vp_updL S (n - 1 - k) (lN (dv n r k)), ⟨rfl, rfl, fun m h2 h3 => ?_⟩, fun g => ?_⟩
    · by_cases e : m = n - 1 - k
      · subst e; rw [updL_s, show n - 1 - (n - 1 - k) = k by omega]
      · rw [updL_n e]; exact hS m (by omega) h3
    · have g1 : ¬ (nI (n - 1 - k) < 0 ∨ 64 ≤ n - 1 - k) := by rw [l0, q_lt (by omega) (by omega)]; omega
      unfold fX10_makesPermutation_L116
      rw [if_neg (by rw [l0, q_le (by omega) (by omega)]; omega), q_cl (by omega), if_neg g1, q_m1 (by omega), l1, q_add, q_i2l (by omega), if_neg (by rw [L0, Q_eq (by omega) (by omega)]; omega), Q_div (by omega) (by omega) (by omega), dv_s, show n - 1 - k + 1 = n - k by omega, show n - 1 - k - 1 = n - 1 - (k + 1) by omega]) (n - 1) 0 (lN r) (nI (n - 1)) S FU (by omega) (FU_gt (by omega)) ⟨rfl, rfl, fun m h1 h2 => by omega⟩
  rw [l1, q_sub h1n, h]
  unfold fX10_makesPermutation_L116
  rw [Nat.sub_self, if_pos (by decide)]
  have ht := tv_le n r
  obtain ⟨c, w, q2, ⟨rfl, -, hw⟩, h'⟩ := lpG2 (fX10_makesPermutation_L156 of S') (fun m c w => c = nI m ∧ 1 ≤ m ∧ ∀ j, j < m → w j = nI (PI (tv n r) m j)) n (by
    rintro m c w hm ⟨rfl, hm1, hw⟩
    have hd := dv_le n r (n - 1 - m)
    have hd2 := dv_le n r (n - m)
    have htm := ht m
    have hmod := Nat.mod_lt (dv n r (n - 1 - m)) (show 0 < m + 1 by omega)
    obtain ⟨w', e', hw'⟩ := m_ins (m := m) (p := tv n r m) (by omega) (ht m) w (nI m)
    refine ⟨_, w', ⟨rfl, by omega, fun j hj => ?_⟩, fun g => ?_⟩
    · rw [hw' j (by omega), PI_s]
      rcases Nat.lt_trichotomy j (tv n r m) with c | c | c
      · rw [if_pos c, ins_lt c]; exact hw j (by omega)
      · rw [if_neg (by omega), if_pos c, c, ins_at]
      · rw [if_neg (by omega), if_neg (by omega), ins_gt c]; exact hw (j - 1) (by omega)
    · have e4 : dv n r (n - 1 - m) / (m + 1) = dv n r (n - m) := by
        rw [show n - m = (n - 1 - m) + 1 by omega, dv_s, show n - (n - 1 - m) = m + 1 by omega]
      have g1 : ¬ (nI m < 0 ∨ 64 ≤ m) := by rw [l0, q_lt (by omega) (by omega)]; omega
      have e5 : tv n r m = if dv n r (n - m) % 2 = 0 then m - dv n r (n - 1 - m) % (m + 1) else dv n r (n - 1 - m) % (m + 1) := rfl
      unfold fX10_makesPermutation_L156 fX10_makesPermutation_B213
      rw [h0, if_neg (by rw [q_le (by omega) (by omega)]; omega), q_cl (by omega), if_neg g1, hS m (by omega) hm, l1, q_add, q_i2l (by omega), if_neg (by rw [L0, Q_eq (by omega) (by omega)]; omega), Q_rem (a := dv n r (n - 1 - m)) (by omega) (by omega) (by omega), Q_div (a := dv n r (n - 1 - m)) (by omega) (by omega) (by omega), e4, L2, Q_rem (by omega) (by omega) (by omega), q_l2i]
      by_cases c : dv n r (n - m) % 2 = 0
      · rw [if_pos c] at e5
        rw [if_neg (by rw [L0, Q_eq (by omega) (by omega)]; omega), q_sub (by omega), ← e5, e', Option.bind_some]
      · rw [if_neg c] at e5
        rw [if_pos (by rw [L0, Q_eq (by omega) (by omega)]; omega), ← e5, e', Option.bind_some]) (n - 1) 1 (nI 1) (upd a 0 0) FU (by omega) (FU_gt (by omega)) ⟨rfl, Nat.le_refl 1, fun j hj => by
      obtain rfl : j = 0 := by omega
      have e : tv n r 0 = 0 := by have := tv_le n r 0; omega
      rw [upd_s, PI_s, e, ins_at]; rfl⟩
  rw [l1, h']
  refine ⟨w, S', ?_, hw⟩
  unfold fX10_makesPermutation_L156
  rw [h0, if_pos (by rw [q_le (by omega) (by omega)]; omega)]
theorem lay1 {n o r : Nat} (h1n : 1 ≤ n) (hn : n ≤ 20) (ho : o ≤ 1) {L Z of : Nat → Int32} {R S : Nat → Int64} (hr : r < 9223372036854775808) (h0 : of 0 = nI n) (h1 : of 1 = nI o) (a a' : Nat → Int32) : ∃ w w' S', fX5_lay a (nI n) (nI o) L R Z (lN r) = some (w, L, R, Z) ∧ fX10_makesPermutation a' S of (lN r) = some (w', S') ∧ Same n n w w' := by
  unfold fX5_lay
  by_cases c : o = 1
  · subst c
    obtain ⟨w, e1, e2⟩ := x_pl h1n hn hr a
    obtain ⟨w', S', e3, e4⟩ := m_pl h1n hn hr a' of S h0 h1
    have hb := (PI_ok (tv_le n r) n).1
    refine ⟨w, w', S', ?_, e3, fun j hj => ⟨by rw [e2 j hj, e4 j hj], _, hb j hj, e2 j hj⟩⟩
    rw [l1, if_neg (fun z => z rfl), e1, Option.bind_some]
  · obtain rfl : o = 0 := by omega
    obtain ⟨w, e1, e2⟩ := x_lw h1n hn hr a
    obtain ⟨w', e3, e4⟩ := m_lw h1n hn hr a' of S h0 h1
    refine ⟨w, w', S, ?_, e3, fun j hj => ⟨by rw [e2 j hj, e4 j hj], _, lw_lt n r n (Nat.le_refl n) j (by omega) hj, e2 j hj⟩⟩
    rw [if_pos (by rw [l1, q_eq (by omega) (by omega)]; omega), e1, Option.bind_some]
-- inverses
theorem turn1 {n : Nat} (hn : n ≤ 20) {b L Z of : Nat → Int32} (hb : AccP n b) (h0 : of 0 = nI n) (a a' : Nat → Int32) : ∃ w w', fX5_turn a (nI n) b L Z = some (w, L, Z) ∧ fX10_inverts a' b of = some w' ∧ Same n n w w' ∧ AccP n w := by
  obtain ⟨h2, h3⟩ := accP_v hb
  have key : ∀ w : Nat → Int32, (∀ i, i < n → w ((b i).toNatClampNeg) = nI i) → ∀ j, j < n → ∃ i, i < n ∧ (b i).toNatClampNeg = j ∧ w j = nI i := by
    intro w hw j hj
    obtain ⟨i, h4, h5⟩ := surj h3 (fun j hj => (h2 j hj).2) hj
    exact ⟨i, h4, h5, by rw [← h5]; exact hw i h4⟩
  have stp : ∀ (a : Nat → Int32) i, i < n → (∀ j, j < i → a ((b j).toNatClampNeg) = nI j) → ∀ j, j < i + 1 → upd a ((b i).toNatClampNeg) (nI i) ((b j).toNatClampNeg) = nI j := by
    intro a i hi ha j hj
    by_cases e : j = i
    · subst e; rw [upd_s]
    · rw [upd_n (h3 i j (by omega) hi)]; exact ha j (by omega)
  unfold fX5_turn fX10_inverts
  obtain ⟨c, w, q, ⟨rfl, hw⟩, h⟩ := lpG2 (fX5_turn_L3 (nI n) b L Z) (fun i c a => c = nI i ∧ ∀ j, j < i → a ((b j).toNatClampNeg) = nI j) n (by
    rintro i c a hi ⟨rfl, ha⟩
    refine ⟨_, _, ⟨rfl, stp a i hi ha⟩, fun g => ?_⟩
    obtain ⟨e1, e2, -⟩ := hb i hi
    have e3 : ∀ v, fX9_set 60 a (b i) v = some (upd a ((b i).toNatClampNeg) v) := by
      intro v
      have := q_set (n := 60) (i := (b i).toNatClampNeg) (c := a) (v := v) (by omega) (by omega)
      rw [← e1] at this; exact this
    unfold fX5_turn_L3
    rw [if_neg (by rw [q_le (by omega) (by omega)]; omega), q_at (by omega) (by omega), Option.bind_some, e3, Option.bind_some, l1, q_add]) n 0 (nI 0) a FU (by omega) (FU_gt (by omega)) ⟨rfl, fun j hj => by omega⟩
  obtain ⟨c, w', q', ⟨rfl, hw'⟩, h'⟩ := lpG2 (fX10_inverts_L2 b of) (fun i c a => c = nI i ∧ ∀ j, j < i → a ((b j).toNatClampNeg) = nI j) n (by
    rintro i c a hi ⟨rfl, ha⟩
    refine ⟨_, _, ⟨rfl, stp a i hi ha⟩, fun g => ?_⟩
    obtain ⟨e1, e2, -⟩ := hb i hi
    have g1 : ¬ (nI i < 0 ∨ 60 ≤ i) := by rw [l0, q_lt (by omega) (by omega)]; omega
    have g2 : ¬ (b i < 0 ∨ 60 ≤ (b i).toNatClampNeg) := by
      have : ¬ nI (b i).toNatClampNeg < 0 := nI_neg (by omega)
      rw [← e1] at this
      exact fun z => z.elim this (by omega)
    unfold fX10_inverts_L2
    rw [h0, if_neg (by rw [q_le (by omega) (by omega)]; omega), q_cl (by omega), if_neg g1, if_neg g2, l1, q_add]) n 0 (nI 0) a' FU (by omega) (FU_gt (by omega)) ⟨rfl, fun j hj => by omega⟩
  rw [l0, h, h']
  refine ⟨w, w', ?_, ?_, fun j hj => ?_, fun i hi => ?_⟩
  · unfold fX5_turn_L3; rw [if_pos (by rw [q_le (by omega) (by omega)]; omega)]
  · unfold fX10_inverts_L2; rw [if_pos (by rw [h0, q_le (by omega) (by omega)]; omega)]
  · obtain ⟨i, h4, h5, h6⟩ := key w hw j hj
    exact ⟨by rw [h6, ← h5]; exact (hw' i h4).symm, i, h4, h6⟩
  · obtain ⟨x, h4, h5, h6⟩ := key w hw i hi
    rw [h6, q_cl (by omega)]
    refine ⟨rfl, h4, fun j hj => ?_⟩
    obtain ⟨y, h7, h8, h9⟩ := key w hw j (by omega)
    rw [h9, q_cl (by omega)]
    intro e
    subst e
    omega
