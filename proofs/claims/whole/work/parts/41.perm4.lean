/-! ===== pure part 11: permutations laid, lexicographic ===== -/
def ev (r : Nat) : Nat → Nat
  | 0 => r
  | k + 1 => ev r k / (k + 1)
theorem ev_le (r : Nat) : ∀ k, ev r k ≤ r
  | 0 => Nat.le_refl r
  | k + 1 => Nat.le_trans (Nat.div_le_self _ _) (ev_le r k)
/-- a row from behind: what comes before lifts what is not less -/
def lw (n r : Nat) : Nat → Nat → Nat
  | 0 => fun _ => 0
  | k + 1 => fun j => if j = n - (k + 1) then ev r k % (k + 1) else if ev r k % (k + 1) ≤ lw n r k j then lw n r k j + 1 else lw n r k j
theorem lw_s (n r k j : Nat) : lw n r (k + 1) j = if j = n - (k + 1) then ev r k % (k + 1) else if ev r k % (k + 1) ≤ lw n r k j then lw n r k j + 1 else lw n r k j := rfl
theorem lw_lt (n r : Nat) : ∀ k, k ≤ n → ∀ j, n - k ≤ j → j < n → lw n r k j < k
  | 0, _, j, h1, h2 => by omega
  | k + 1, h, j, h1, h2 => by
    rw [lw_s]
    have h5 := Nat.mod_lt (ev r k) (show 0 < k + 1 by omega)
    by_cases c : j = n - (k + 1)
    · rw [if_pos c]; exact h5
    · rw [if_neg c]
      have ih := lw_lt n r k (by omega) j (by omega) h2
      by_cases c2 : ev r k % (k + 1) ≤ lw n r k j
      · rw [if_pos c2]; omega
      · rw [if_neg c2]; omega
def lwU (n r k : Nat) (a : Nat → Int32) (j : Nat) : Nat → Int32 := if ev r k % (k + 1) ≤ lw n r k j then upd a j (nI (lw n r k j + 1)) else a
theorem lwU_ok {n r k j : Nat} {a : Nat → Int32} (hij : n - (k + 1) < j) (ha : ∀ i, n - (k + 1) ≤ i → i < n → a i = nI (if i < j then lw n r (k + 1) i else lw n r k i)) : ∀ i, n - (k + 1) ≤ i → i < n → lwU n r k a j i = nI (if i < j + 1 then lw n r (k + 1) i else lw n r k i) := by
  intro i h1 h2
  unfold lwU
  by_cases e : i = j
  · subst e
    have e2 := ha i h1 h2
    rw [if_neg (by omega)] at e2
    rw [if_pos (show i < i + 1 by omega), lw_s, if_neg (show ¬ i = n - (k + 1) by omega)]
    by_cases c : ev r k % (k + 1) ≤ lw n r k i
    · rw [if_pos c, if_pos c, upd_s]
    · rw [if_neg c, if_neg c, e2]
  · have e2 := ha i h1 h2
    have e3 : (if ev r k % (k + 1) ≤ lw n r k j then upd a j (nI (lw n r k j + 1)) else a) i = a i := by
      by_cases c : ev r k % (k + 1) ≤ lw n r k j
      · rw [if_pos c, upd_n e]
      · rw [if_neg c]
    rw [e3, e2]
    by_cases c : i < j
    · rw [if_pos c, if_pos (by omega)]
    · rw [if_neg c, if_neg (by omega)]
theorem nI_neg {k : Nat} (h : k < 2147483648) : ¬ nI k < 0 := by rw [l0, q_lt h (by omega)]; omega
theorem x_lw {n r : Nat} (h1n : 1 ≤ n) (hn : n ≤ 20) (hr : r < 9223372036854775808) (a : Nat → Int32) : ∃ w, fX5_layLexicographic a (nI n) (lN r) = some w ∧ ∀ j, j < n → w j = nI (lw n r n j) := by
  unfold fX5_layLexicographic
  obtain ⟨x, c, w, m, ⟨rfl, rfl, hw⟩, h⟩ := lpG3 (fX5_layLexicographic_L11 (nI n)) (fun k x c a => x = lN (ev r k) ∧ c = nI (n - k) + (-1) ∧ ∀ j, n - k ≤ j → j < n → a j = nI (lw n r k j)) n (by
    rintro k x c a hk ⟨rfl, rfl, ha⟩
    have hev := ev_le r k
    obtain ⟨a', c', ⟨rfl, -, ha'⟩, h⟩ := lpK2 (fun g => fX5_layLexicographic_L61 (nI n) (nI (n - (k + 1))) g (lN (ev r k % (k + 1))) (lN (ev r k / (k + 1)))) (fun j c a => c = nI j ∧ n - (k + 1) < j ∧ ∀ i, n - (k + 1) ≤ i → i < n → a i = nI (if i < j then lw n r (k + 1) i else lw n r k i)) n (by
      rintro j c a hj ⟨rfl, hij, ha⟩
      refine ⟨_, lwU n r k a j, ⟨rfl, by omega, lwU_ok hij ha⟩, fun q g => ?_⟩
      have e := ha j (by omega) hj
      rw [if_neg (by omega)] at e
      have h3 := lw_lt n r k (by omega) j (by omega) hj
      have h4 := Nat.mod_lt (ev r k) (show 0 < k + 1 by omega)
      unfold fX5_layLexicographic_L61 fX5_layLexicographic_B95 lwU
      rw [if_neg (by rw [q_le (by omega) (by omega)]; omega), q_at (by omega) (by omega), Option.bind_some, e, q_l2i]
      by_cases c : ev r k % (k + 1) ≤ lw n r k j
      · rw [if_neg (by rw [q_lt (by omega) (by omega)]; omega), if_pos c, Option.bind_some, q_set (by omega) (by omega), Option.bind_some, l1, q_add, q_add]
      · rw [if_pos (by rw [q_lt (by omega) (by omega)]; omega), if_neg c, l1, q_add]) (n - (n - (k + 1) + 1)) (n - (k + 1) + 1) (nI (n - (k + 1) + 1)) (upd a (n - (k + 1)) (nI (ev r k % (k + 1)))) FU (by omega) (FU_gt (by omega)) ⟨rfl, by omega, fun i h1 h2 => by
        by_cases c : i = n - (k + 1)
        · subst c; rw [upd_s, if_pos (by omega), lw_s, if_pos rfl]
        · rw [upd_n c, if_neg (by omega)]; exact ha i (by omega) h2⟩
    refine ⟨_, _, c', ⟨rfl, rfl, fun j h1 h2 => by rw [ha' j h1 h2, if_pos h2]⟩, fun g => ?_⟩
    obtain ⟨m, h⟩ := h g
    have e1 : nI (n - k) + (-1) = nI (n - (k + 1)) := by rw [q_m1 (by omega)]; rfl
    have e2 : nI n - nI (n - (k + 1)) = nI (k + 1) := by rw [q_sub (by omega), show n - (n - (k + 1)) = k + 1 by omega]
    unfold fX5_layLexicographic_L11
    rw [e1, if_neg (nI_neg (by omega)), e2, q_i2l (by omega), q_rmd (by omega) (by omega) (by omega), Option.bind_some, q_quo (by omega) (by omega) (by omega), Option.bind_some, q_set (by omega) (by omega), Option.bind_some, q_l2i, l1, q_add]
    refine h.trans ?_
    unfold fX5_layLexicographic_L61
    rw [if_pos (by rw [q_le (by omega) (by omega)]; omega)]
    rfl) n 0 (lN r) (nI n + (-1)) a FU (by omega) (FU_gt (by omega)) ⟨rfl, rfl, fun j h1 h2 => by omega⟩
  have e1 : nI n - 1 = nI n + (-1) := by rw [q_m1 h1n, l1, q_sub h1n]
  rw [e1, h]
  refine ⟨w, ?_, fun j hj => hw j (by omega) hj⟩
  unfold fX5_layLexicographic_L11
  rw [if_pos (by rw [Nat.sub_self]; decide)]
theorem m_lw {n r : Nat} (h1n : 1 ≤ n) (hn : n ≤ 20) (hr : r < 9223372036854775808) (a of : Nat → Int32) (S : Nat → Int64) (h0 : of 0 = nI n) (h1 : of 1 = nI 0) : ∃ w, fX10_makesPermutation a S of (lN r) = some (w, S) ∧ ∀ j, j < n → w j = nI (lw n r n j) := by
  unfold fX10_makesPermutation
  rw [if_neg (by rw [h1]; exact fun z => z rfl), h0]
  obtain ⟨x, c, w, m, ⟨rfl, rfl, hw⟩, h⟩ := lpG3 (fX10_makesPermutation_L24 S of) (fun k x c a => x = lN (ev r k) ∧ c = nI (n - k) + (-1) ∧ ∀ j, n - k ≤ j → j < n → a j = nI (lw n r k j)) n (by
    rintro k x c a hk ⟨rfl, rfl, ha⟩
    have hev := ev_le r k
    obtain ⟨a', c', ⟨rfl, -, ha'⟩, h⟩ := lpK2 (fun g => fX10_makesPermutation_L65 of (lN (ev r k)) (nI (n - (k + 1))) g) (fun j c a => c = nI j ∧ n - (k + 1) < j ∧ ∀ i, n - (k + 1) ≤ i → i < n → a i = nI (if i < j then lw n r (k + 1) i else lw n r k i)) n (by
      rintro j c a hj ⟨rfl, hij, ha⟩
      refine ⟨_, lwU n r k a j, ⟨rfl, by omega, lwU_ok hij ha⟩, fun q g => ?_⟩
      have e := ha j (by omega) hj
      rw [if_neg (by omega)] at e
      have h3 := lw_lt n r k (by omega) j (by omega) hj
      have h4 := Nat.mod_lt (ev r k) (show 0 < k + 1 by omega)
      have e2 : nI n - nI (n - (k + 1)) = nI (k + 1) := by rw [q_sub (by omega), show n - (n - (k + 1)) = k + 1 by omega]
      have g1 : ¬ (nI j < 0 ∨ 60 ≤ j) := by rw [l0, q_lt (by omega) (by omega)]; omega
      unfold fX10_makesPermutation_L65 fX10_makesPermutation_B96 lwU
      rw [h0, if_neg (by rw [q_le (by omega) (by omega)]; omega), q_cl (by omega), if_neg g1, e, e2, q_i2l (by omega), Q_rem (by omega) (by omega) (by omega), q_l2i]
      by_cases c : ev r k % (k + 1) ≤ lw n r k j
      · rw [if_neg (by rw [q_lt (by omega) (by omega)]; omega), if_pos c, l1, q_add, q_add]
      · rw [if_pos (by rw [q_lt (by omega) (by omega)]; omega), if_neg c, l1, l0, q_add, q_add, show nI (lw n r k j + 0) = a j from e.symm, upd_self]) (n - (n - (k + 1) + 1)) (n - (k + 1) + 1) (nI (n - (k + 1) + 1)) (upd a (n - (k + 1)) (nI (ev r k % (k + 1)))) FU (by omega) (FU_gt (by omega)) ⟨rfl, by omega, fun i h1 h2 => by
        by_cases c : i = n - (k + 1)
        · subst c; rw [upd_s, if_pos (by omega), lw_s, if_pos rfl]
        · rw [upd_n c, if_neg (by omega)]; exact ha i (by omega) h2⟩
    refine ⟨_, _, c', ⟨rfl, rfl, fun j h1 h2 => by rw [ha' j h1 h2, if_pos h2]⟩, fun g => ?_⟩
    obtain ⟨m, h⟩ := h g
    have e1 : nI (n - k) + (-1) = nI (n - (k + 1)) := by rw [q_m1 (by omega)]; rfl
    have e2 : nI n - nI (n - (k + 1)) = nI (k + 1) := by rw [q_sub (by omega), show n - (n - (k + 1)) = k + 1 by omega]
    have g1 : ¬ (nI (n - (k + 1)) < 0 ∨ 60 ≤ n - (k + 1)) := by rw [l0, q_lt (by omega) (by omega)]; omega
    unfold fX10_makesPermutation_L24
    rw [e1, if_neg (nI_neg (by omega)), h0, e2, q_i2l (by omega), if_neg (by rw [L0, Q_eq (by omega) (by omega)]; omega), q_cl (by omega), if_neg g1, Q_rem (by omega) (by omega) (by omega), q_l2i, l1, q_add]
    refine h.trans ?_
    unfold fX10_makesPermutation_L65
    rw [h0, if_pos (by rw [q_le (by omega) (by omega)]; omega), e2, q_i2l (by omega), Q_div (by omega) (by omega) (by omega)]
    rfl) n 0 (lN r) (nI n + (-1)) a FU (by omega) (FU_gt (by omega)) ⟨rfl, rfl, fun j h1 h2 => by omega⟩
  have e1 : nI n - 1 = nI n + (-1) := by rw [q_m1 h1n, l1, q_sub h1n]
  rw [e1, h]
  refine ⟨w, ?_, fun j hj => hw j (by omega) hj⟩
  unfold fX10_makesPermutation_L24
  rw [if_pos (by rw [Nat.sub_self]; decide)]
