/-! ===== pure part 19: partitions, accepted ===== -/
def su (v : Nat → Nat) : Nat → Nat
  | 0 => 0
  | i + 1 => su v i + v i
theorem su_s (v : Nat → Nat) (i : Nat) : su v (i + 1) = su v i + v i := rfl
def lst (g : Nat) (v : Nat → Nat) : Nat → Nat
  | 0 => g
  | i + 1 => v i
def AccT (g n : Nat) (b : Nat → Int32) : Prop := (∀ i, i < n → b i = nI (b i).toNatClampNeg ∧ (b i).toNatClampNeg ≤ lst g (fun i => (b i).toNatClampNeg) i) ∧ su (fun i => (b i).toNatClampNeg) n = n
theorem lst_le {g n : Nat} {v : Nat → Nat} (h : ∀ i, i < n → v i ≤ lst g v i) : ∀ i, i ≤ n → lst g v i ≤ g
  | 0, _ => Nat.le_refl g
  | i + 1, hi => Nat.le_trans (h i (by omega)) (lst_le h i (by omega))
theorem su_le {v : Nat → Nat} {g : Nat} : ∀ {n}, (∀ i, i < n → v i ≤ g) → su v n ≤ n * g
  | 0, _ => by show 0 ≤ _; omega
  | n + 1, h => by
    have := su_le (n := n) (fun i hi => h i (by omega))
    have h2 := h n (by omega)
    rw [su_s, Nat.add_mul]; omega
theorem acc4_aux {g n : Nat} (hg : g ≤ 60) (hn : n ≤ 60) (b L Z of : Nat → Int32) (h0 : of 0 = nI n) (h1 : of 1 = nI g) : ∀ d i fx fm, i + d = n → d < fx → d < fm → (∀ j, j < i → b j = nI (b j).toNatClampNeg ∧ (b j).toNatClampNeg ≤ lst g (fun i => (b i).toNatClampNeg) j) → ∃ v : Int32, rk_it3 (fX4_accepts_L11 (nI n) b L Z) fx (nI (su (fun i => (b i).toNatClampNeg) i)) (nI (lst g (fun i => (b i).toNatClampNeg) i)) (nI i) = some (v, L, Z) ∧ rk_it3 (fX10_isPartition_L11 b of) fm (nI (lst g (fun i => (b i).toNatClampNeg) i)) (nI (su (fun i => (b i).toNatClampNeg) i)) (nI i) = some v ∧ (v = 0 ∧ ¬ AccT g n b ∨ v = 1 ∧ AccT g n b) := by
  intro d
  have hlst : ∀ i, i ≤ n → (∀ j, j < i → b j = nI (b j).toNatClampNeg ∧ (b j).toNatClampNeg ≤ lst g (fun i => (b i).toNatClampNeg) j) → lst g (fun i => (b i).toNatClampNeg) i ≤ g ∧ su (fun i => (b i).toNatClampNeg) i ≤ 3600 := by
    intro i hi hj
    have h2 := lst_le (g := g) (n := i) (v := fun i => (b i).toNatClampNeg) (fun j h => (hj j h).2)
    refine ⟨h2 i (Nat.le_refl i), ?_⟩
    have h3 := su_le (n := i) (v := fun i => (b i).toNatClampNeg) (g := g) (fun j h => h2 (j + 1) (by omega))
    have h4 : i * g ≤ 60 * 60 := Nat.mul_le_mul (by omega) hg
    omega
  induction d with
  | zero =>
    intro i fx fm hi hfx hfm hj
    obtain ⟨fx, rfl, -⟩ := suc_of hfx
    obtain ⟨fm, rfl, -⟩ := suc_of hfm
    obtain ⟨k1, k2⟩ := hlst i (by omega) hj
    obtain rfl : i = n := by omega
    rw [it3_s, it3_s]
    unfold fX4_accepts_L11 fX10_isPartition_L11
    have hle : nI i ≤ nI i := by rw [q_le (by omega) (by omega)]; omega
    rw [h0, if_pos hle, if_pos hle]
    by_cases c : su (fun i => (b i).toNatClampNeg) i = i
    · rw [c, if_neg (fun z => z rfl), if_neg (fun z => z rfl)]
      exact ⟨1, rfl, rfl, Or.inr ⟨rfl, hj, c⟩⟩
    · rw [if_pos (by rw [q_eq (by omega) (by omega)]; exact c), if_pos (by rw [q_eq (by omega) (by omega)]; exact c)]
      exact ⟨0, rfl, rfl, Or.inl ⟨rfl, fun z => c z.2⟩⟩
  | succ d ih =>
    intro i fx fm hi hfx hfm hj
    obtain ⟨fx, rfl, hfx⟩ := suc_of hfx
    obtain ⟨fm, rfl, hfm⟩ := suc_of hfm
    obtain ⟨k1, k2⟩ := hlst i (by omega) hj
    have z0 : (0 : Int32).toInt = 0 := by decide
    have Z0 : (0 : Int64).toInt = 0 := by decide
    have e1 : nI i + 1 = nI (i + 1) := by rw [l1, q_add]
    have g1 : ¬ (nI i < 0 ∨ 60 ≤ i) := by rw [l0, q_lt (by omega) (by omega)]; omega
    rw [it3_s, it3_s]
    generalize hX : rk_it3 (fX4_accepts_L11 (nI n) b L Z) fx = gx
    generalize hM : rk_it3 (fX10_isPartition_L11 b of) fm = gm
    unfold fX4_accepts_L11 fX10_isPartition_L11
    rw [h0, if_neg (by rw [q_le (by omega) (by omega)]; omega), if_neg (by rw [q_le (by omega) (by omega)]; omega), q_at (by omega) (by omega), Option.bind_some, q_cl (by omega), if_neg g1, e1]
    by_cases c1 : (b i).toInt < 0
    · rw [if_pos (by rw [i_lt, z0]; exact c1), w_no (by rw [i_lt64, i_lt64, i_w, Z0]; exact Or.inl c1), Option.bind_some, if_neg (fun z => z rfl)]
      refine ⟨0, rfl, rfl, Or.inl ⟨rfl, fun z => ?_⟩⟩
      have h3 := (z.1 i (by omega)).1
      have h4 := (z.1 i (by omega)).2
      have h5 : (b i).toInt = (b i).toNatClampNeg := by rw [congrArg Int32.toInt h3, i_nI (by omega)]
      omega
    · have h3 : b i = nI (b i).toNatClampNeg := i_of (by omega)
      rw [if_neg (by rw [i_lt, z0]; exact c1)]
      by_cases c2 : (b i).toInt ≤ (lst g (fun i => (b i).toNatClampNeg) i : Nat)
      · have h4 : (b i).toNatClampNeg ≤ lst g (fun i => (b i).toNatClampNeg) i := by rw [i_cl]; omega
        rw [if_pos (by rw [i_le, i_nI (by omega)]; exact c2), w_yes (by rw [i_lt64, i_w, Z0]; exact c1) (by rw [i_lt64, i_w, i_w, i_nI (by omega)]; omega), Option.bind_some, if_pos (by decide)]
        have e2 : nI (su (fun i => (b i).toNatClampNeg) i) + b i = nI (su (fun i => (b i).toNatClampNeg) (i + 1)) := by
          rw [congrArg (fun q => nI (su (fun i => (b i).toNatClampNeg) i) + q) h3, q_add]; rfl
        rw [e2]
        have e3 : b i = nI (lst g (fun i => (b i).toNatClampNeg) (i + 1)) := h3
        have := ih (i + 1) fx fm (by omega) (by omega) (by omega) (fun j hj' => by
          by_cases q : j = i
          · subst q; exact ⟨h3, h4⟩
          · exact hj j (by omega))
        rw [← e3, hX, hM] at this
        exact this
      · rw [if_neg (by rw [i_le, i_nI (by omega)]; exact c2), w_no (by rw [i_lt64, i_lt64, i_w, i_w, i_nI (by omega)]; omega), Option.bind_some, if_neg (fun z => z rfl)]
        refine ⟨0, rfl, rfl, Or.inl ⟨rfl, fun z => ?_⟩⟩
        have h4 := (z.1 i (by omega)).2
        rw [i_cl] at h4
        omega
theorem acc4 {g n : Nat} (hg : g ≤ 60) (hn : n ≤ 60) (b L Z of : Nat → Int32) (h0 : of 0 = nI n) (h1 : of 1 = nI g) : ∃ v : Int32, fX4_accepts (nI n) (nI g) b L Z = some (v, L, Z) ∧ fX10_isPartition b of = some v ∧ (v = 0 ∧ ¬ AccT g n b ∨ v = 1 ∧ AccT g n b) := by
  obtain ⟨v, e1, e2, e3⟩ := acc4_aux hg hn b L Z of h0 h1 n 0 FU FU (by omega) (FU_gt (by omega)) (FU_gt (by omega)) (fun j hj => by omega)
  refine ⟨v, e1, ?_, e3⟩
  unfold fX10_isPartition
  rw [h1]; exact e2
