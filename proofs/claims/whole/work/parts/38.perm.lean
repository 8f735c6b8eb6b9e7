/-! ===== pure part 8: counts, permutations ===== -/
def cn (v : Nat → Nat) (m : Nat) : Nat → Nat
  | 0 => 0
  | i + 1 => cn v m i + if v i = m then 1 else 0
def cu (v : Nat → Nat) (m : Nat) : Nat → Nat
  | 0 => 0
  | i + 1 => cu v m i + if v i < m then 1 else 0
theorem cn_s (v : Nat → Nat) (m i : Nat) : cn v m (i + 1) = cn v m i + if v i = m then 1 else 0 := rfl
theorem cu_s (v : Nat → Nat) (m i : Nat) : cu v m (i + 1) = cu v m i + if v i < m then 1 else 0 := rfl
theorem cu_s1 (v : Nat → Nat) (m : Nat) : ∀ i, cu v (m + 1) i = cu v m i + cn v m i
  | 0 => rfl
  | i + 1 => by
    rw [cu_s, cu_s, cn_s, cu_s1 v m i]
    rcases Nat.lt_trichotomy (v i) m with h | h | h
    · rw [if_pos (by omega), if_pos h, if_neg (by omega)]; omega
    · rw [if_pos (by omega), if_neg (by omega), if_pos h]; omega
    · rw [if_neg (by omega), if_neg (by omega), if_neg (by omega)]; omega
theorem cn_pos {v : Nat → Nat} {m : Nat} : ∀ {i}, 0 < cn v m i → ∃ j, j < i ∧ v j = m
  | 0, h => absurd h (Nat.lt_irrefl 0)
  | i + 1, h => by
    by_cases e : v i = m
    · exact ⟨i, by omega, e⟩
    · rw [cn_s, if_neg e] at h
      obtain ⟨j, h1, h2⟩ := cn_pos (i := i) h
      exact ⟨j, by omega, h2⟩
theorem cn_zero {v : Nat → Nat} {m : Nat} : ∀ {i}, (∀ j, j < i → v j ≠ m) → cn v m i = 0
  | 0, _ => rfl
  | i + 1, h => by rw [cn_s, if_neg (h i (by omega)), cn_zero (fun j hj => h j (by omega))]
def Inj (n : Nat) (v : Nat → Nat) : Prop := ∀ i j, j < i → i < n → v j ≠ v i
theorem cn_le1 {n : Nat} {v : Nat → Nat} (hv : Inj n v) {m : Nat} : ∀ {i}, i ≤ n → cn v m i ≤ 1
  | 0, _ => by show 0 ≤ 1; omega
  | i + 1, h => by
    rw [cn_s]
    by_cases e : v i = m
    · rw [if_pos e, cn_zero (fun j hj => by rw [← e]; exact hv i j hj (by omega))]; omega
    · rw [if_neg e]; exact cn_le1 hv (by omega)
theorem cu_all {v : Nat → Nat} {m : Nat} : ∀ {i}, (∀ j, j < i → v j < m) → cu v m i = i
  | 0, _ => rfl
  | i + 1, h => by rw [cu_s, if_pos (h i (by omega)), cu_all (fun j hj => h j (by omega))]
theorem cu_0 {v : Nat → Nat} : ∀ i, cu v 0 i = 0
  | 0 => rfl
  | i + 1 => by rw [cu_s, if_neg (by omega), cu_0 i]
theorem cu_le {n : Nat} {v : Nat → Nat} (hv : Inj n v) {i : Nat} (hi : i ≤ n) : ∀ m d, cu v (m + d) i ≤ cu v m i + d
  | m, 0 => Nat.le_refl _
  | m, d + 1 => by
    have h1 := cu_le hv hi m d
    have h2 := cu_s1 v (m + d) i
    have h3 := cn_le1 hv (m := m + d) hi
    rw [show m + (d + 1) = m + d + 1 by omega]; omega
theorem cu_le' {n : Nat} {v : Nat → Nat} (hv : Inj n v) {i : Nat} (hi : i ≤ n) (m : Nat) : cu v m i ≤ m := by
  have h := cu_le hv hi 0 m
  rw [cu_0, Nat.zero_add] at h
  omega
theorem surj {n m : Nat} {v : Nat → Nat} (hv : Inj n v) (hb : ∀ j, j < n → v j < n) (hm : m < n) : ∃ j, j < n ∧ v j = m := by
  apply cn_pos
  have h1 := cu_all hb
  have h2 := cu_le hv (Nat.le_refl n) (m + 1) (n - (m + 1))
  rw [show m + 1 + (n - (m + 1)) = n by omega] at h2
  have h3 := cu_s1 v m n
  have h4 := cu_le' hv (Nat.le_refl n) m
  omega
theorem cu_mono {v : Nat → Nat} {m : Nat} : ∀ {i j}, i ≤ j → cu v m i ≤ cu v m j
  | i, 0, h => by obtain rfl : i = 0 := by omega
                  omega
  | i, j + 1, h => by
    by_cases e : i = j + 1
    · subst e; omega
    · have := cu_mono (v := v) (m := m) (i := i) (j := j) (by omega)
      rw [cu_s]; omega
-- bits
def bt (s v : Int32) : Prop := (s >>> (v &&& 31)) &&& 1 = 1
theorem sh_nat : ∀ x : Fin 31, ((nI x.val) &&& 31).toBitVec.smod 32 = BitVec.ofNat 32 x.val := by decide
theorem sh_lt : ∀ x : Fin 31, (BitVec.ofNat 32 x.val).toNat = x.val := by decide
theorem bt_iff (s : Int32) {x : Nat} (hx : x < 31) : bt s (nI x) ↔ s.toBitVec.getLsbD x = true := by
  unfold bt
  have e1 : (s >>> (nI x &&& 31)).toBitVec = s.toBitVec.sshiftRight x := by
    rw [Int32.toBitVec_shiftRight, sh_nat ⟨x, hx⟩]
    show s.toBitVec.sshiftRight (BitVec.ofNat 32 x).toNat = _
    rw [sh_lt ⟨x, hx⟩]
  rw [← Int32.toBitVec_inj, Int32.toBitVec_and, e1]
  have e2 : (1 : Int32).toBitVec = 1#32 := rfl
  rw [e2]
  have e3 : (s.toBitVec.sshiftRight x).getLsbD 0 = s.toBitVec.getLsbD x := by
    rw [BitVec.getLsbD_sshiftRight, Nat.add_zero, if_pos (by omega)]; simp
  have e4 : (1#32).getLsbD 0 = true := by decide
  constructor
  · intro h
    have h2 : (s.toBitVec.sshiftRight x &&& 1#32).getLsbD 0 = (1#32).getLsbD 0 := by rw [h]
    rw [BitVec.getLsbD_and, e3, e4, Bool.and_true] at h2
    exact h2
  · intro h
    apply BitVec.eq_of_getLsbD_eq
    intro i hi
    rw [BitVec.getLsbD_and]
    by_cases e : i = 0
    · subst e
      rw [e3, e4, h]; rfl
    · have : (1#32).getLsbD i = false := by simp [BitVec.getLsbD_one]; omega
      rw [this, Bool.and_false]
theorem bt_0 {x : Nat} (hx : x < 31) : ¬ bt 0 (nI x) := by
  rw [bt_iff 0 hx]
  have e2 : (0 : Int32).toBitVec = 0#32 := rfl
  rw [e2]; simp
theorem bt_or (s : Int32) {x y : Nat} (hx : x < 31) (hy : y < 31) : bt (s ||| ((1 : Int32) <<< (nI y &&& 31))) (nI x) ↔ bt s (nI x) ∨ x = y := by
  rw [bt_iff _ hx, bt_iff _ hx, Int32.toBitVec_or, BitVec.getLsbD_or, Int32.toBitVec_shiftLeft, sh_nat ⟨y, hy⟩]
  have e2 : (1 : Int32).toBitVec = 1#32 := rfl
  rw [e2, BitVec.shiftLeft_eq', sh_lt ⟨y, hy⟩, BitVec.getLsbD_shiftLeft, BitVec.getLsbD_one]
  rw [Bool.or_eq_true]
  apply or_congr Iff.rfl
  simp
  omega
