/-! ===== pure part 30: Catalan numbers ===== -/
theorem ct_mul (n : Nat) : (n + 1) * ct n = cb (2 * n) n := by
  have h := (ct_div n).2
  unfold ct
  cases n with
  | zero => decide
  | succ n =>
    rw [cbm_s] at h ⊢
    have h1 := cb_mul (2 * (n + 1)) n
    generalize cb (2 * (n + 1)) (n + 1) = A at *
    generalize cb (2 * (n + 1)) n = B at *
    obtain ⟨D, rfl⟩ : ∃ D, A = B + D := ⟨A - B, by omega⟩
    rw [Nat.add_sub_cancel_left]
    have e1 : 2 * (n + 1) * B = n * B + (n * B + 2 * B) := by
      rw [Nat.add_mul n n B |>.symm.trans rfl |> fun _ => show 2 * (n + 1) * B = (n + (n + 2)) * B by rw [show 2 * (n + 1) = n + (n + 2) by omega], Nat.add_mul, Nat.add_mul n 2 B]
    rw [e1, Nat.mul_add, Nat.add_mul n 1 B] at h1
    rw [Nat.add_mul (n + 1) 1 D]
    omega
def cat : Nat → Nat
  | 0 => 1
  | n + 1 => cat n * (4 * n + 2) / (n + 2)
