/-! ===== pure part 18: partitions, how many ===== -/
def bld (m : Nat) (r : List Nat) : Nat → List Nat
  | 0 => []
  | s + 1 => (r.getD (60 - s) 0 + (if m ≤ s then (bld m r s).getD (m - 1) 0 else 0)) :: bld m r s
def rows : Nat → List Nat
  | 0 => List.replicate 60 0 ++ [1]
  | m + 1 => bld (m + 1) (rows m) 61
theorem bld_ok {m : Nat} {r : List Nat} (hr : ∀ s, s ≤ 60 → r.getD (60 - s) 0 = pt m s) : ∀ s, s ≤ 61 → ∀ j, j < s → (bld (m + 1) r s).getD j 0 = pt (m + 1) (s - 1 - j)
  | 0, _, j, h => by omega
  | s + 1, hs, j, h => by
    have ih := bld_ok hr s (by omega)
    unfold bld
    cases j with
    | zero =>
      rw [List.getD_cons_zero, hr s (by omega), show s + 1 - 1 - 0 = s by omega]
      by_cases z : s = 0
      · subst z; rw [if_neg (by omega), pt_z, pt_z]
      · rw [pt_s m s z]
        by_cases c : m + 1 ≤ s
        · rw [if_pos c, if_pos c, Nat.add_sub_cancel, ih m (by omega), show s - 1 - m = s - (m + 1) by omega]
        · rw [if_neg c, if_neg c]
    | succ j =>
      rw [List.getD_cons_succ, ih j (by omega), show s + 1 - 1 - (j + 1) = s - 1 - j by omega]
theorem rows_0 : ∀ i : Fin 61, (rows 0).getD (60 - i.val) 0 = if i.val = 0 then 1 else 0 := by decide
theorem rows_ok : ∀ m s, s ≤ 60 → (rows m).getD (60 - s) 0 = pt m s
  | 0, s, hs => by rw [pt_0, rows_0 ⟨s, by omega⟩]
  | m + 1, s, hs => by
    unfold rows
    rw [bld_ok (rows_ok m) 61 (by omega) (60 - s) (by omega), show 61 - 1 - (60 - s) = s by omega]
theorem rows_lt : ((List.range 61).all fun s => (rows 60).getD (60 - s) 0 < 2147483648) = true := by decide +kernel
theorem pt_up (m s : Nat) : pt m s ≤ pt (m + 1) s := by
  by_cases z : s = 0
  · subst z; rw [pt_z, pt_z]; omega
  · rw [pt_s m s z]; omega
theorem pt_mono {s : Nat} : ∀ {m m'}, m ≤ m' → pt m s ≤ pt m' s
  | m, 0, h => by obtain rfl : m = 0 := by omega
                  omega
  | m, m' + 1, h => by
    by_cases e : m = m' + 1
    · subst e; omega
    · exact Nat.le_trans (pt_mono (by omega)) (pt_up m' s)
theorem pt_lt {m s : Nat} (hs : s ≤ 60) : pt m s < 2147483648 := by
  have h := rows_lt
  rw [List.all_eq_true] at h
  have h2 := h s (List.mem_range.mpr (by omega))
  rw [decide_eq_true_iff, rows_ok 60 s hs] at h2
  have h3 := pt_mono (s := s) (m := m) (m' := max m 60) (by omega)
  have h4 := pt_top (m := max m 60) (s := s) (by omega)
  have h5 := pt_top (m := 60) (s := s) hs
  omega
