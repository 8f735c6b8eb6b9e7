/-! ===== pure part 4: subsets ===== -/
theorem i_lt (a b : Int32) : a < b ↔ a.toInt < b.toInt := Int32.lt_iff_toInt_lt
theorem i_le (a b : Int32) : a ≤ b ↔ a.toInt ≤ b.toInt := Int32.le_iff_toInt_le
theorem i_lt64 (a b : Int64) : a < b ↔ a.toInt < b.toInt := Int64.lt_iff_toInt_lt
theorem i_w (a : Int32) : a.toInt64.toInt = a.toInt := Int32.toInt_toInt64 a
theorem i_rng (a : Int32) : -2147483648 ≤ a.toInt ∧ a.toInt < 2147483648 := ⟨by have := Int32.le_toInt a; simpa using this, by have := Int32.toInt_lt a; simpa using this⟩
theorem i_inc (a : Int32) : (a.toInt64 + (1 : Int64)).toInt = a.toInt + 1 := by
  have h := i_rng a
  rw [Int64.toInt_add, i_w]
  have : (1 : Int64).toInt = 1 := by decide
  rw [this]
  exact Int.bmod_eq_of_le (by omega) (by omega)
theorem i_dec (a : Int32) : (a.toInt64 - (1 : Int64)).toInt = a.toInt - 1 := by
  have h := i_rng a
  rw [Int64.toInt_sub, i_w]
  have : (1 : Int64).toInt = 1 := by decide
  rw [this]
  exact Int.bmod_eq_of_le (by omega) (by omega)
theorem i_nI {n : Nat} (h : n < 2147483648) : (nI n).toInt = n := nI_toInt h
theorem i_of {x : Int32} (h : 0 ≤ x.toInt) : x = nI x.toNatClampNeg := by
  apply Int32.toInt_inj.mp
  have hr := i_rng x
  have e : x.toNatClampNeg = x.toInt.toNat := rfl
  rw [i_nI (by rw [e]; omega), e]; omega
theorem i_cl (x : Int32) : x.toNatClampNeg = x.toInt.toNat := rfl
theorem w_no {x lo hi : Int64} (h : x < lo ∨ hi < x) : fX10_within x lo hi = some 0 := by
  unfold fX10_within fX10_within_B17
  by_cases h1 : x < lo
  · rw [if_pos h1]
  · rw [if_neg h1, if_pos (h.resolve_left h1)]
theorem w_yes {x lo hi : Int64} (h1 : ¬ x < lo) (h2 : ¬ hi < x) : fX10_within x lo hi = some 1 := by
  unfold fX10_within
  rw [if_neg h1, if_neg h2]
-- accepted subsets
def AccS (n k : Nat) (b : Nat → Int32) : Prop := ∀ i, i < k → b i = nI (b i).toNatClampNeg ∧ (b i).toNatClampNeg < n ∧ ∀ j, j < i → (b j).toNatClampNeg < (b i).toNatClampNeg
theorem acc0_aux {n k : Nat} (hk : k ≤ 60) (hn : n ≤ 60) (b L Z of : Nat → Int32) (h0 : of 0 = nI n) (h1 : of 1 = nI k) : ∀ d i fx fm (last : Int32), i + d = k → d < fx → d < fm → -1 ≤ last.toInt → ∃ v : Int32, rk_it2 (fX6_accepts_L5 (nI k) (nI n) b L Z) fx last (nI i) = some (v, L, Z) ∧ rk_it2 (fX10_isSubset_L4 b of) fm last (nI i) = some v ∧ (v = 0 ∨ v = 1 ∧ (∀ j, i ≤ j → j < k → last.toInt < (b j).toInt ∧ (b j).toInt < n ∧ ∀ j', i ≤ j' → j' < j → (b j').toInt < (b j).toInt)) := by
  intro d
  induction d with
  | zero =>
    intro i fx fm last hi hfx hfm hl
    obtain ⟨fx, rfl, -⟩ := suc_of hfx
    obtain ⟨fm, rfl, -⟩ := suc_of hfm
    refine ⟨1, ?_, ?_, Or.inr ⟨rfl, fun j h1 h2 => by omega⟩⟩
    · rw [it2_s]; unfold fX6_accepts_L5; rw [if_pos (by rw [q_le (by omega) (by omega)]; omega)]
    · rw [it2_s]; unfold fX10_isSubset_L4; rw [h1, if_pos (by rw [q_le (by omega) (by omega)]; omega)]
  | succ d ih =>
    intro i fx fm last hi hfx hfm hl
    obtain ⟨fx, rfl, hfx⟩ := suc_of hfx
    obtain ⟨fm, rfl, hfm⟩ := suc_of hfm
    have ex : ∀ g, fX6_accepts_L5 (nI k) (nI n) b L Z g last (nI i) = (if (b i).toInt ≤ last.toInt ∨ (n : Int) ≤ (b i).toInt then some (0, L, Z) else g (b i) (nI (i + 1))) := by
      intro g
      unfold fX6_accepts_L5
      rw [if_neg (by rw [q_le (by omega) (by omega)]; omega), q_at (by omega) (by omega), Option.bind_some, l1, q_add]
      by_cases c1 : (b i).toInt ≤ last.toInt
      · rw [if_pos ((i_le _ _).mpr c1), if_pos (Or.inl c1)]
      · rw [if_neg (fun z => c1 ((i_le _ _).mp z))]
        by_cases c2 : (n : Int) ≤ (b i).toInt
        · rw [if_neg (by rw [i_lt, i_nI (by omega)]; omega), if_pos (Or.inr c2)]
        · rw [if_pos (by rw [i_lt, i_nI (by omega)]; omega), if_neg (by omega)]
    have em : ∀ g, fX10_isSubset_L4 b of g last (nI i) = (if (b i).toInt ≤ last.toInt ∨ (n : Int) ≤ (b i).toInt then some 0 else g (b i) (nI (i + 1))) := by
      intro g
      unfold fX10_isSubset_L4
      rw [h1, h0, if_neg (by rw [q_le (by omega) (by omega)]; omega), q_cl (by omega), if_neg (by rw [l0, q_lt (by omega) (by omega)]; omega)]
      by_cases c : (b i).toInt ≤ last.toInt ∨ (n : Int) ≤ (b i).toInt
      · rw [w_no (by rw [i_lt64, i_lt64, i_inc, i_dec, i_w, i_nI (by omega)]; omega), Option.bind_some, if_pos c, if_neg (by simp)]
      · rw [w_yes (by rw [i_lt64, i_inc, i_w]; omega) (by rw [i_lt64, i_dec, i_w, i_nI (by omega)]; omega), Option.bind_some, if_neg c, if_pos (by decide), l1, q_add]
    rw [it2_s, it2_s, ex, em]
    by_cases c : (b i).toInt ≤ last.toInt ∨ (n : Int) ≤ (b i).toInt
    · rw [if_pos c, if_pos c]; exact ⟨0, rfl, rfl, Or.inl rfl⟩
    · rw [if_neg c, if_neg c]
      obtain ⟨v, e1, e2, e3⟩ := ih (i + 1) fx fm (b i) (by omega) (by omega) (by omega) (by omega)
      refine ⟨v, e1, e2, ?_⟩
      rcases e3 with e3 | ⟨e3, e4⟩
      · exact Or.inl e3
      · refine Or.inr ⟨e3, fun j h1 h2 => ?_⟩
        by_cases q : j = i
        · subst q; exact ⟨by omega, by omega, fun j' h3 h4 => by omega⟩
        · obtain ⟨g1, g2, g3⟩ := e4 j (by omega) h2
          refine ⟨by omega, g2, fun j' h3 h4 => ?_⟩
          by_cases q2 : j' = i
          · subst q2; exact g1
          · exact g3 j' (by omega) h4
theorem acc0 {n k : Nat} (hk : k ≤ 60) (hn : n ≤ 60) (b L Z of : Nat → Int32) (h0 : of 0 = nI n) (h1 : of 1 = nI k) : ∃ v : Int32, fX6_accepts (nI k) (nI n) b L Z = some (v, L, Z) ∧ fX10_isSubset b of = some v ∧ (v = 0 ∨ v = 1 ∧ AccS n k b) := by
  obtain ⟨v, e1, e2, e3⟩ := acc0_aux hk hn b L Z of h0 h1 k 0 FU FU (-1) (by omega) (FU_gt (by omega)) (FU_gt (by omega)) (by decide)
  refine ⟨v, e1, e2, ?_⟩
  rcases e3 with e3 | ⟨e3, e4⟩
  · exact Or.inl e3
  · refine Or.inr ⟨e3, fun i hi => ?_⟩
    obtain ⟨g1, g2, g3⟩ := e4 i (by omega) hi
    have m1 : (-1 : Int32).toInt = -1 := by decide
    rw [m1] at g1
    refine ⟨i_of (by omega), by rw [i_cl]; omega, fun j hj => ?_⟩
    have := g3 j (by omega) hj
    obtain ⟨g4, -, -⟩ := e4 j (by omega) (by omega)
    rw [m1] at g4
    rw [i_cl, i_cl]; omega
/-- the other way: what is ascending is accepted -/
theorem acc0_in {n k : Nat} (hk : k ≤ 60) (hn : n ≤ 60) (b L Z : Nat → Int32) (hb : AccS n k b) : fX6_accepts (nI k) (nI n) b L Z = some (1, L, Z) := by
  have key : ∀ d i fx (last : Int32), i + d = k → d < fx → (i = 0 ∧ last = -1 ∨ 0 < i ∧ last = b (i - 1)) → rk_it2 (fX6_accepts_L5 (nI k) (nI n) b L Z) fx last (nI i) = some (1, L, Z) := by
    intro d
    induction d with
    | zero =>
      intro i fx last hi hfx hl
      obtain ⟨fx, rfl, -⟩ := suc_of hfx
      rw [it2_s]; unfold fX6_accepts_L5; rw [if_pos (by rw [q_le (by omega) (by omega)]; omega)]
    | succ d ih =>
      intro i fx last hi hfx hl
      obtain ⟨fx, rfl, hfx⟩ := suc_of hfx
      obtain ⟨g1, g2, g3⟩ := hb i (by omega)
      rw [it2_s]; unfold fX6_accepts_L5
      rw [if_neg (by rw [q_le (by omega) (by omega)]; omega), q_at (by omega) (by omega), Option.bind_some, l1, q_add]
      have gi : (b i).toInt = (b i).toNatClampNeg := by rw [congrArg Int32.toInt g1, i_nI (by omega)]
      have c1 : ¬ b i ≤ last := by
        rw [i_le, gi]
        rcases hl with ⟨-, rfl⟩ | ⟨hp, rfl⟩
        · have m1 : (-1 : Int32).toInt = -1 := by decide
          rw [m1]; omega
        · have g4 := g3 (i - 1) (by omega)
          obtain ⟨k1, k2, -⟩ := hb (i - 1) (by omega)
          have gj : (b (i - 1)).toInt = (b (i - 1)).toNatClampNeg := by rw [congrArg Int32.toInt k1, i_nI (by omega)]
          rw [gj]; omega
      rw [if_neg c1, if_pos (by rw [i_lt, i_nI (by omega), gi]; omega)]
      exact ih (i + 1) fx (b i) (by omega) (by omega) (Or.inr ⟨by omega, by rw [Nat.add_sub_cancel]⟩)
  exact key k 0 FU (-1) (by omega) (FU_gt (by omega)) (Or.inl ⟨rfl, rfl⟩)
