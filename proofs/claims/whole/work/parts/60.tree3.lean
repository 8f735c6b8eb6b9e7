/-! ===== pure part 30: Catalan numbers ===== -/
theorem ct_mul (n : Nat) : (n + 1) * ct n = cb (2 * n) n := by
  have h := (ct_div n).2
  unfold ct
  cases n with
  | zero => decide
  | succ n =>
    rw [cbm_s] at h ⊢
    have h1 := cb_mul (2 * (n + 1)) n
    generalize cb (2 * (n + 1)) (n + 1) = A at *
    generalize cb (2 * (n + 1)) n = B at *
    obtain ⟨D, rfl⟩ : ∃ D, A = B + D := ⟨A - B, by omega⟩
    rw [Nat.add_sub_cancel_left]
    have e1 : 2 * (n + 1) * B = n * B + (n * B + 2 * B) := by
      rw [Nat.add_mul n n B |>.symm.trans rfl |> fun _ => show 2 * (n + 1) * B = (n + (n + 2)) * B by rw [show 2 * (n + 1) = n + (n + 2) by omega], Nat.add_mul, Nat.add_mul n 2 B]
    rw [e1, Nat.mul_add, Nat.add_mul n 1 B] at h1
    rw [Nat.add_mul (n + 1) 1 D]
    omega
def cat : Nat → Nat
  | 0 => 1
  | n + 1 => cat n * (4 * n + 2) / (n + 2)
theorem cb_up (n : Nat) : (n + 1) * cb (2 * n + 1) n = (2 * n + 1) * cb (2 * n) n := by
  cases n with
  | zero => decide
  | succ n =>
    have h1 := cb_mul (2 * (n + 1)) n
    rw [cb_s (2 * (n + 1)) n]
    generalize cb (2 * (n + 1)) (n + 1) = A at *
    generalize cb (2 * (n + 1)) n = B at *
    have e1 : 2 * (n + 1) * B = n * B + (n + 2) * B := by rw [← Nat.add_mul, show n + (n + 2) = 2 * (n + 1) by omega]
    have e2 : (n + 1) * A = (n + 2) * B := by omega
    rw [show n + 1 + 1 = n + 2 from rfl, Nat.mul_add, ← e2, ← Nat.add_mul, show n + 1 + (n + 2) = 2 * (n + 1) + 1 by omega]
theorem ct_rec (n : Nat) : (n + 2) * ct (n + 1) = (4 * n + 2) * ct n := by
  have h1 := ct_mul n
  have h2 := ct_mul (n + 1)
  have h3 := cb_up n
  rw [show 2 * (n + 1) = 2 * n + 1 + 1 by omega, cb_s, cb_mid n] at h2
  rw [← h1] at h3
  have e : (n + 1) * ((n + 2) * ct (n + 1)) = (n + 1) * ((4 * n + 2) * ct n) := by
    rw [show n + 1 + 1 = n + 2 from rfl] at h2
    rw [h2, Nat.mul_add, h3, show 4 * n + 2 = 2 * (2 * n + 1) by omega, Nat.mul_left_comm (2 * n + 1), ← Nat.mul_add, Nat.mul_assoc 2]
    generalize (2 * n + 1) * ct n = X
    rw [Nat.two_mul]
  exact Nat.eq_of_mul_eq_mul_left (by omega) e
theorem ct_cat : ∀ n, ct n = cat n
  | 0 => by decide
  | n + 1 => by
    show ct (n + 1) = cat n * (4 * n + 2) / (n + 2)
    rw [← ct_cat n, Nat.mul_comm, ← ct_rec n, Nat.mul_div_cancel_left _ (by omega)]
def cvs (f : Nat → Nat) (n : Nat) : Nat → Nat
  | 0 => 0
  | x + 1 => cvs f n x + f x * f (n - x)
theorem cat_cv : ∀ n : Fin 30, cat (n.val + 1) = cvs cat n.val (n.val + 1) := by decide +kernel
theorem cvs_cong {f g : Nat → Nat} (h : ∀ x, f x = g x) (n : Nat) : ∀ v, cvs f n v = cvs g n v
  | 0 => rfl
  | v + 1 => by
    show cvs f n v + f v * f (n - v) = cvs g n v + g v * g (n - v)
    rw [cvs_cong h n v, h v, h (n - v)]
theorem ct_cv {n : Nat} (h : n < 30) : ct (n + 1) = cvs ct n (n + 1) := by
  rw [ct_cat, cat_cv ⟨n, h⟩]
  exact (cvs_cong ct_cat n (n + 1)).symm
theorem x_trees {B : Nat → Int64} (hB : TB B) {n : Nat} (hn : n ≤ 30) : fX2_trees B (nI n) = some (lN (ct n)) := by
  have hc := (ct_div n).2
  have e1 : (nI (2 * n) - 0) / nI 2 = nI n := by
    rw [show (0 : Int32) = nI 0 from rfl, q_sub (by omega), Nat.sub_zero, q_div (by omega) (by omega) (by omega), show 2 * n / 2 = n by omega]
  have e2 : fX2_binomial B (nI (2 * n)) (nI n - 1) = some (lN (cbm (2 * n) n)) := by
    cases n with
    | zero => rw [show nI 0 - 1 = (-1 : Int32) by decide, q_binm]; rfl
    | succ n => rw [l1, q_sub (by omega), q_bin hB (by omega) (by omega)]; rfl
  unfold fX2_trees fX2_wordEnds
  rw [l2, q_mul, if_neg (show ¬ (0 : Int32) < 0 by decide), if_pos (show (0 : Int32) ≤ nI (2 * n) by rw [show (0 : Int32) = nI 0 from rfl, q_le (by omega) (by omega)]; omega), e1, q_bin hB (by omega) (by omega), Option.bind_some, e2, Option.bind_some, if_pos (show ¬ (1 : Int32) = nI 2 by decide), Q_sub hc, Option.bind_some]
  rfl
