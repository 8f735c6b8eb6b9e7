/-! ===== pure part 9: permutations, accepted and ranked ===== -/
def AccP (n : Nat) (b : Nat → Int32) : Prop := ∀ i, i < n → b i = nI (b i).toNatClampNeg ∧ (b i).toNatClampNeg < n ∧ ∀ j, j < i → (b j).toNatClampNeg ≠ (b i).toNatClampNeg
theorem acc1_aux {n : Nat} (hn : n ≤ 20) (b L Z of : Nat → Int32) (h0 : of 0 = nI n) : ∀ d i fx fm (s : Int32), i + d = n → d < fx → d < fm → (∀ j, j < i → b j = nI (b j).toNatClampNeg ∧ (b j).toNatClampNeg < n ∧ ∀ j', j' < j → (b j').toNatClampNeg ≠ (b j).toNatClampNeg) → (∀ x, x < n → (bt s (nI x) ↔ ∃ j, j < i ∧ (b j).toNatClampNeg = x)) → ∃ v : Int32, rk_it2 (fX5_accepts_L5 (nI n) b L Z) fx s (nI i) = some (v, L, Z) ∧ rk_it2 (fX10_isPermutation_L4 b of) fm s (nI i) = some v ∧ (v = 0 ∧ ¬ AccP n b ∨ v = 1 ∧ AccP n b) := by
  intro d
  induction d with
  | zero =>
    intro i fx fm s hi hfx hfm hg hs
    obtain ⟨fx, rfl, -⟩ := suc_of hfx
    obtain ⟨fm, rfl, -⟩ := suc_of hfm
    refine ⟨1, ?_, ?_, Or.inr ⟨rfl, fun j h1 => hg j (by omega)⟩⟩
    · rw [it2_s]; unfold fX5_accepts_L5; rw [if_pos (by rw [q_le (by omega) (by omega)]; omega)]
    · rw [it2_s]; unfold fX10_isPermutation_L4; rw [h0, if_pos (by rw [q_le (by omega) (by omega)]; omega)]
  | succ d ih =>
    intro i fx fm s hi hfx hfm hg hs
    obtain ⟨fx, rfl, hfx⟩ := suc_of hfx
    obtain ⟨fm, rfl, hfm⟩ := suc_of hfm
    have ex : ∀ g, fX5_accepts_L5 (nI n) b L Z g s (nI i) = (if (b i).toInt < 0 ∨ (n : Int) ≤ (b i).toInt then some (0, L, Z) else if (s >>> (b i &&& 31)) &&& 1 = 1 then some (0, L, Z) else g (s ||| ((1 : Int32) <<< (b i &&& 31))) (nI (i + 1))) := by
      intro g
      unfold fX5_accepts_L5
      have e1 : nI i + 1 = nI (i + 1) := by rw [l1, q_add]
      rw [if_neg (by rw [q_le (by omega) (by omega)]; omega), q_at (by omega) (by omega), Option.bind_some, e1]
      have z0 : (0 : Int32).toInt = 0 := by decide
      by_cases c1 : (b i).toInt < 0
      · rw [if_pos (by rw [i_lt, z0]; exact c1), if_pos (Or.inl c1)]
      · rw [if_neg (by rw [i_lt, z0]; exact c1)]
        by_cases c2 : (n : Int) ≤ (b i).toInt
        · rw [if_pos (by rw [i_le, i_nI (by omega)]; exact c2), if_pos (Or.inr c2)]
        · rw [if_neg (by rw [i_le, i_nI (by omega)]; exact c2), if_neg (c := (b i).toInt < 0 ∨ (n : Int) ≤ (b i).toInt) (fun z => z.elim c1 c2)]
          by_cases c3 : (s >>> (b i &&& 31)) &&& 1 = 1
          · rw [if_pos c3, if_neg (fun z => z c3)]
          · rw [if_neg c3, if_pos c3]
    have em : ∀ g, fX10_isPermutation_L4 b of g s (nI i) = (if (b i).toInt < 0 ∨ (n : Int) ≤ (b i).toInt then some 0 else if (s >>> (b i &&& 31)) &&& 1 = 1 then some 0 else g (s ||| ((1 : Int32) <<< (b i &&& 31))) (nI (i + 1))) := by
      intro g
      unfold fX10_isPermutation_L4
      have e1 : nI i + 1 = nI (i + 1) := by rw [l1, q_add]
      have z0 : (0 : Int64).toInt = 0 := by decide
      rw [h0, if_neg (by rw [q_le (by omega) (by omega)]; omega), q_cl (by omega), if_neg (by rw [l0, q_lt (by omega) (by omega)]; omega), e1]
      by_cases c : (b i).toInt < 0 ∨ (n : Int) ≤ (b i).toInt
      · rw [w_no (by rw [i_lt64, i_lt64, i_dec, i_w, i_nI (by omega), z0]; omega), Option.bind_some, if_pos c, if_pos rfl]
      · rw [w_yes (by rw [i_lt64, i_w, z0]; omega) (by rw [i_lt64, i_dec, i_w, i_nI (by omega)]; omega), Option.bind_some, if_neg c, if_neg (by decide)]
        by_cases c3 : (s >>> (b i &&& 31)) &&& 1 = 1
        · rw [if_pos c3, if_neg (fun z => z c3)]
        · rw [if_neg c3, if_pos c3]
    rw [it2_s, it2_s, ex, em]
    by_cases c : (b i).toInt < 0 ∨ (n : Int) ≤ (b i).toInt
    · rw [if_pos c, if_pos c]
      refine ⟨0, rfl, rfl, Or.inl ⟨rfl, fun z => ?_⟩⟩
      obtain ⟨g1, g2, -⟩ := z i (by omega)
      have g3 : (b i).toInt = (b i).toNatClampNeg := by rw [congrArg Int32.toInt g1, i_nI (by omega)]
      omega
    · rw [if_neg c, if_neg c]
      have g1 : b i = nI (b i).toNatClampNeg := i_of (by omega)
      have g2 : (b i).toNatClampNeg < n := by rw [i_cl]; omega
      by_cases c3 : (s >>> (b i &&& 31)) &&& 1 = 1
      · rw [if_pos c3, if_pos c3]
        refine ⟨0, rfl, rfl, Or.inl ⟨rfl, fun z => ?_⟩⟩
        rw [g1] at c3
        obtain ⟨j, h1, h2⟩ := (hs _ g2).mp c3
        exact (z i (by omega)).2.2 j h1 h2
      · rw [if_neg c3, if_neg c3]
        refine ih (i + 1) fx fm _ (by omega) (by omega) (by omega) (fun j hj => ?_) (fun x hx => ?_)
        · by_cases e : j = i
          · subst e
            refine ⟨g1, g2, fun j' hj' h => c3 ?_⟩
            rw [g1]
            exact (hs _ g2).mpr ⟨j', hj', h⟩
          · exact hg j (by omega)
        · rw [show (b i &&& 31) = (nI (b i).toNatClampNeg &&& 31) from congrArg (fun q => q &&& 31) g1, bt_or s (by omega) (by omega), hs x hx]
          constructor
          · rintro (⟨j, h1, h2⟩ | h)
            · exact ⟨j, by omega, h2⟩
            · exact ⟨i, by omega, h.symm⟩
          · rintro ⟨j, h1, h2⟩
            by_cases e : j = i
            · subst e; exact Or.inr h2.symm
            · exact Or.inl ⟨j, by omega, h2⟩
theorem acc1 {n : Nat} (hn : n ≤ 20) (b L Z of : Nat → Int32) (h0 : of 0 = nI n) : ∃ v : Int32, fX5_accepts (nI n) b L Z = some (v, L, Z) ∧ fX10_isPermutation b of = some v ∧ (v = 0 ∧ ¬ AccP n b ∨ v = 1 ∧ AccP n b) :=
  acc1_aux hn b L Z of h0 n 0 FU FU 0 (by omega) (FU_gt (by omega)) (FU_gt (by omega)) (fun j hj => by omega) (fun x hx => ⟨fun h => absurd h (bt_0 (by omega)), fun ⟨j, hj, _⟩ => by omega⟩)
-- ranks: how many of those behind are less
def lc (v : Nat → Nat) (i : Nat) : Nat → Nat
  | 0 => 0
  | j + 1 => lc v i j + if i < j ∧ v j < v i then 1 else 0
theorem lc_s (v : Nat → Nat) (i j : Nat) : lc v i (j + 1) = lc v i j + if i < j ∧ v j < v i then 1 else 0 := rfl
theorem lc_le (v : Nat → Nat) (i : Nat) : ∀ j, lc v i j ≤ j - (i + 1)
  | 0 => Nat.zero_le _
  | j + 1 => by
    have := lc_le v i j
    rw [lc_s]
    by_cases h : i < j ∧ v j < v i
    · rw [if_pos h]; omega
    · rw [if_neg h]; omega
theorem lc_0 (v : Nat → Nat) (i : Nat) : lc v i (i + 1) = 0 := by
  have := lc_le v i (i + 1)
  omega
theorem m_lc {n : Nat} (hn : n ≤ 20) {b of : Nat → Int32} {v : Nat → Nat} (hb : ∀ i, i < n → b i = nI (v i) ∧ v i < n) (h0 : of 0 = nI n) {i : Nat} (hi : i < n) : fX10_lessBehind b of (nI i) = some (nI (lc v i n)) := by
  unfold fX10_lessBehind
  rw [l1, q_add]
  obtain ⟨a, c, m, ⟨rfl, rfl, -⟩, h⟩ := lpG2 (fX10_lessBehind_L6 b of (nI i)) (fun j a c => a = nI (lc v i j) ∧ c = nI j ∧ i < j) n (by
    rintro j a c hj ⟨rfl, rfl, hij⟩
    refine ⟨_, _, ⟨rfl, rfl, by omega⟩, fun g => ?_⟩
    unfold fX10_lessBehind_L6 fX10_lessBehind_B37
    have g1 : ¬ (nI j < 0 ∨ 60 ≤ j) := by rw [l0, q_lt (by omega) (by omega)]; omega
    have g2 : ¬ (nI i < 0 ∨ 60 ≤ i) := by rw [l0, q_lt (by omega) (by omega)]; omega
    obtain ⟨e1, e2⟩ := hb i hi
    obtain ⟨e3, e4⟩ := hb j hj
    rw [h0, if_neg (by rw [q_le (by omega) (by omega)]; omega), q_cl (by omega), q_cl (by omega), if_neg g1, if_neg g2, e1, e3, lc_s]
    by_cases c : v i ≤ v j
    · rw [if_pos (by rw [q_le (by omega) (by omega)]; exact c), if_neg (by omega), l0, l1, q_add, q_add]
    · rw [if_neg (by rw [q_le (by omega) (by omega)]; exact c), if_pos (by omega), l1, q_add, q_add]) (n - (i + 1)) (i + 1) (nI 0) (nI (i + 1)) FU (by omega) (FU_gt (by omega)) ⟨by rw [lc_0], rfl, by omega⟩
  rw [l0, h]
  unfold fX10_lessBehind_L6
  rw [h0, if_pos (by rw [q_le (by omega) (by omega)]; omega)]
/-- places, by a row of what is less -/
def hr (v : Nat → Nat) (n : Nat) : Nat → Nat
  | 0 => 0
  | i + 1 => hr v n i * (n - i) + lc v i n
theorem fc_pred {n : Nat} (h : 0 < n) : fc n = n * fc (n - 1) := by
  obtain ⟨m, rfl⟩ : ∃ m, n = m + 1 := ⟨n - 1, by omega⟩
  rfl
theorem hr_lt (v : Nat → Nat) (n : Nat) : ∀ i, i ≤ n → (hr v n i + 1) * fc (n - i) ≤ fc n
  | 0, _ => by show (0 + 1) * fc (n - 0) ≤ fc n; rw [Nat.sub_zero]; omega
  | i + 1, h => by
    have ih := hr_lt v n i (by omega)
    have h1 := lc_le v i n
    rw [fc_pred (n := n - i) (by omega), ← Nat.mul_assoc] at ih
    show (hr v n i * (n - i) + lc v i n + 1) * fc (n - (i + 1)) ≤ fc n
    refine Nat.le_trans (Nat.mul_le_mul_right _ ?_) ih
    rw [Nat.add_mul, Nat.one_mul]; omega
def hs (v : Nat → Nat) (n : Nat) : Nat → Nat
  | 0 => 0
  | i + 1 => hs v n i + lc v i n * fc (n - 1 - i)
theorem hs_hr (v : Nat → Nat) (n : Nat) : ∀ i, i ≤ n → hs v n i = hr v n i * fc (n - i)
  | 0, _ => by show 0 = 0 * _; rw [Nat.zero_mul]
  | i + 1, h => by
    show hs v n i + lc v i n * fc (n - 1 - i) = (hr v n i * (n - i) + lc v i n) * fc (n - (i + 1))
    rw [hs_hr v n i (by omega), fc_pred (n := n - i) (by omega), ← Nat.mul_assoc, Nat.add_mul, show n - i - 1 = n - (i + 1) by omega, show n - 1 - i = n - (i + 1) by omega]
theorem x_hr {n : Nat} (hn : n ≤ 20) {b : Nat → Int32} {v : Nat → Nat} (hb : ∀ i, i < n → b i = nI (v i) ∧ v i < n) : fX5_lexicographicPlace (nI n) b = some (lN (hr v n n)) := by
  unfold fX5_lexicographicPlace
  obtain ⟨a, c, m, ⟨rfl, rfl⟩, h⟩ := lpG2 (fX5_lexicographicPlace_L5 (nI n) b) (fun i a c => a = lN (hr v n i) ∧ c = nI i) n (by
    rintro i a c hi ⟨rfl, rfl⟩
    refine ⟨_, _, ⟨rfl, rfl⟩, fun g => ?_⟩
    obtain ⟨a, c, ⟨rfl, rfl, -⟩, h⟩ := lpK2 (fX5_lexicographicPlace_L23 (nI n) b (lN (hr v n i)) (nI i)) (fun j a c => a = nI (lc v i j) ∧ c = nI j ∧ i < j) n (by
      rintro j a c hj ⟨rfl, rfl, hij⟩
      refine ⟨_, _, ⟨rfl, rfl, by omega⟩, fun q g => ?_⟩
      unfold fX5_lexicographicPlace_L23 fX5_lexicographicPlace_B50
      obtain ⟨e1, e2⟩ := hb i hi
      obtain ⟨e3, e4⟩ := hb j hj
      rw [if_neg (by rw [q_le (by omega) (by omega)]; omega), q_at (by omega) (by omega), Option.bind_some, q_at (by omega) (by omega), Option.bind_some, e1, e3, lc_s]
      by_cases c : v i ≤ v j
      · rw [if_pos (by rw [q_le (by omega) (by omega)]; exact c), if_neg (by omega), l1, q_add]; rfl
      · rw [if_neg (by rw [q_le (by omega) (by omega)]; exact c), if_pos (by omega), l1, q_add, q_add]) (n - (i + 1)) (i + 1) (nI 0) (nI (i + 1)) FU (by omega) (FU_gt (by omega)) ⟨by rw [lc_0], rfl, by omega⟩
    obtain ⟨m, h⟩ := h g
    unfold fX5_lexicographicPlace_L5
    rw [if_neg (by rw [q_le (by omega) (by omega)]; omega), l1, q_add, l0, h]
    have := lc_le v i n
    unfold fX5_lexicographicPlace_L23
    rw [if_pos (by rw [q_le (by omega) (by omega)]; omega), l1, q_add, q_sub (by omega), q_i2l (by omega), q_i2l (by omega), Q_mul, Q_add]
    rfl) n 0 (lN 0) (nI 0) FU (by omega) (FU_gt (by omega)) ⟨rfl, rfl⟩
  rw [l0, L0, h]
  unfold fX5_lexicographicPlace_L5
  rw [if_pos (by rw [q_le (by omega) (by omega)]; omega)]
theorem m_hs {n : Nat} (h1n : 1 ≤ n) (hn : n ≤ 20) {T : Nat → Int64} (hT : TF T) {b of : Nat → Int32} {v : Nat → Nat} (hb : ∀ i, i < n → b i = nI (v i) ∧ v i < n) (h0 : of 0 = nI n) (h1 : of 1 = nI 0) : fX10_permutationRank b T of = some (lN (hs v n n)) := by
  unfold fX10_permutationRank
  obtain ⟨f, hf, -⟩ := suc_of (FU_gt (k := 0) (by omega))
  have e : rk_it2 (fX10_permutationRank_L4 b T of) FU 0 1 = fX10_permutationRank_B65 b T of 0 := by
    rw [hf, it2_s]
    unfold fX10_permutationRank_L4
    by_cases c : of 0 ≤ 1
    · rw [if_pos c]
    · rw [if_neg c, if_pos (by rw [h1, l1, q_eq (by omega) (by omega)]; omega)]
  rw [e]
  unfold fX10_permutationRank_B65
  obtain ⟨a, c, m, ⟨rfl, rfl⟩, h⟩ := lpG2 (fX10_permutationRank_L67 b T of) (fun i a c => a = lN (hs v n i) ∧ c = nI i) n (by
    rintro i a c hi ⟨rfl, rfl⟩
    refine ⟨_, _, ⟨rfl, rfl⟩, fun g => ?_⟩
    have := lc_le v i n
    unfold fX10_permutationRank_L67
    have g1 : ¬ (nI (n - 1 - i) < 0 ∨ 21 ≤ n - 1 - i) := by rw [l0, q_lt (by omega) (by omega)]; omega
    rw [if_neg (by rw [h0, q_le (by omega) (by omega)]; omega), if_neg (by rw [h1]; exact fun z => z rfl), m_lc hn hb h0 hi, Option.bind_some, h0, l1, q_sub (by omega), q_sub (by omega), q_cl (by omega), if_neg g1, q_add, q_i2l (by omega), hT _ (by omega), Q_mul, Q_add]
    rfl) n 0 (lN 0) (nI 0) FU (by omega) (FU_gt (by omega)) ⟨rfl, rfl⟩
  rw [l0, L0, h]
  unfold fX10_permutationRank_L67
  rw [if_pos (by rw [h0, q_le (by omega) (by omega)]; omega)]
