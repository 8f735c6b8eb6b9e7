/-! ===== pure part 30: Catalan numbers ===== -/
theorem ct_mul (n : Nat) : (n + 1) * ct n = cb (2 * n) n := by
  have h := (ct_div n).2
  unfold ct
  cases n with
  | zero => decide
  | succ n =>
    rw [cbm_s] at h ⊢
    have h1 := cb_mul (2 * (n + 1)) n
    generalize cb (2 * (n + 1)) (n + 1) = A at *
    generalize cb (2 * (n + 1)) n = B at *
    obtain ⟨D, rfl⟩ : ∃ D, A = B + D := ⟨A - B, by omega⟩
    rw [Nat.add_sub_cancel_left]
    have e1 : 2 * (n + 1) * B = n * B + (n * B + 2 * B) := by
      rw [Nat.add_mul n n B |>.symm.trans rfl |> fun _ => show 2 * (n + 1) * B = (n + (n + 2)) * B by rw [show 2 * (n + 1) = n + (n + 2) by omega], Nat.add_mul, Nat.add_mul n 2 B]
    rw [e1, Nat.mul_add, Nat.add_mul n 1 B] at h1
    rw [Nat.add_mul (n + 1) 1 D]
    omega
def cat : Nat → Nat
  | 0 => 1
  | n + 1 => cat n * (4 * n + 2) / (n + 2)
theorem cb_up (n : Nat) : (n + 1) * cb (2 * n + 1) n = (2 * n + 1) * cb (2 * n) n := by
  cases n with
  | zero => decide
  | succ n =>
    have h1 := cb_mul (2 * (n + 1)) n
    rw [cb_s (2 * (n + 1)) n]
    generalize cb (2 * (n + 1)) (n + 1) = A at *
    generalize cb (2 * (n + 1)) n = B at *
    have e1 : 2 * (n + 1) * B = n * B + (n + 2) * B := by rw [← Nat.add_mul, show n + (n + 2) = 2 * (n + 1) by omega]
    have e2 : (n + 1) * A = (n + 2) * B := by omega
    rw [show n + 1 + 1 = n + 2 from rfl, Nat.mul_add, ← e2, ← Nat.add_mul, show n + 1 + (n + 2) = 2 * (n + 1) + 1 by omega]
theorem ct_rec (n : Nat) : (n + 2) * ct (n + 1) = (4 * n + 2) * ct n := by
  have h1 := ct_mul n
  have h2 := ct_mul (n + 1)
  have h3 := cb_up n
  rw [show 2 * (n + 1) = 2 * n + 1 + 1 by omega, cb_s, cb_mid n] at h2
  rw [← h1] at h3
  have e : (n + 1) * ((n + 2) * ct (n + 1)) = (n + 1) * ((4 * n + 2) * ct n) := by
    rw [show n + 1 + 1 = n + 2 from rfl] at h2
    rw [h2, Nat.mul_add, h3, show 4 * n + 2 = 2 * (2 * n + 1) by omega, Nat.mul_left_comm (2 * n + 1), ← Nat.mul_add, Nat.mul_assoc 2]
    generalize (2 * n + 1) * ct n = X
    rw [Nat.two_mul]
  exact Nat.eq_of_mul_eq_mul_left (by omega) e
theorem ct_cat : ∀ n, ct n = cat n
  | 0 => by decide
  | n + 1 => by
    show ct (n + 1) = cat n * (4 * n + 2) / (n + 2)
    rw [← ct_cat n, Nat.mul_comm, ← ct_rec n, Nat.mul_div_cancel_left _ (by omega)]
def cvs (f : Nat → Nat) (n : Nat) : Nat → Nat
  | 0 => 0
  | x + 1 => cvs f n x + f x * f (n - x)
theorem cat_cv : ∀ n : Fin 30, cat (n.val + 1) = cvs cat n.val (n.val + 1) := by decide +kernel
theorem cvs_cong {f g : Nat → Nat} (h : ∀ x, f x = g x) (n : Nat) : ∀ v, cvs f n v = cvs g n v
  | 0 => rfl
  | v + 1 => by
    show cvs f n v + f v * f (n - v) = cvs g n v + g v * g (n - v)
    rw [cvs_cong h n v, h v, h (n - v)]
theorem ct_cv {n : Nat} (h : n < 30) : ct (n + 1) = cvs ct n (n + 1) := by
  rw [ct_cat, cat_cv ⟨n, h⟩]
  exact (cvs_cong ct_cat n (n + 1)).symm
theorem x_trees {V : Nat → Int64} (hV : TK V) {n : Nat} (hn : n ≤ 30) : fX2_trees V (nI n) = some (lN (ct n)) := by
  unfold fX2_trees
  rw [q_atL (by omega) (by omega), Option.bind_some, hV n hn]
theorem q_trow : ∃ V, fX2_treeRow = some V ∧ TK V := by
  unfold fX2_treeRow
  obtain ⟨a', b', m, ⟨h1, -, h2⟩, h3⟩ := lpG2 fX2_treeRow_L13 (fun n a T => a = nI n ∧ 1 ≤ n ∧ ∀ j, j < n → T j = lN (ct j)) 31 (by
    rintro n a T hn ⟨rfl, n1, hT⟩
    obtain ⟨i, rfl⟩ : ∃ i, n = i + 1 := ⟨n - 1, by omega⟩
    obtain ⟨a', b', ⟨rfl, rfl⟩, hq⟩ := lpK2 (fX2_treeRow_L24 (nI (i + 1)) T) (fun x a b => a = lN (cvs ct i x) ∧ b = nI x) (i + 1) (by
      rintro x a b hx ⟨rfl, rfl⟩
      refine ⟨lN (cvs ct i (x + 1)), nI (x + 1), ⟨rfl, rfl⟩, fun q g => ?_⟩
      unfold fX2_treeRow_L24
      rw [if_neg (show ¬ nI (i + 1) ≤ nI x by rw [q_le (by omega) (by omega)]; omega), q_atL (by omega) (by omega), Option.bind_some, l1, q_sub (by omega), q_sub (by omega), show i + 1 - 1 - x = i - x by omega, q_atL (by omega) (by omega), Option.bind_some, q_add, hT x (by omega), hT (i - x) (by omega), Q_mul, Q_add]
      rfl) (i + 1) 0 (0 : Int64) (nI 0) FU (by omega) (FU_gt (by omega)) ⟨rfl, rfl⟩
    refine ⟨nI (i + 1 + 1), vp_updL T (i + 1) (lN (cvs ct i (i + 1))), ⟨rfl, by omega, ?_⟩, fun g => ?_⟩
    · intro j hj
      by_cases q : j = i + 1
      · subst q; rw [updL_s, ct_cv (by omega)]
      · rw [updL_n (by omega)]; exact hT j (by omega)
    · obtain ⟨m, hm⟩ := hq g
      unfold fX2_treeRow_L13
      rw [if_neg (show ¬ (30 : Int32) < nI (i + 1) by rw [show (30 : Int32) = nI 30 from rfl, q_lt (by omega) (by omega)]; omega)]
      refine hm.trans ?_
      unfold fX2_treeRow_L24
      rw [if_pos (show nI (i + 1) ≤ nI (i + 1) by rw [q_le (by omega) (by omega)]; exact Nat.le_refl _), q_setL (by omega) (by omega), Option.bind_some, l1, q_add]) 30 1 (nI 1) (vp_updL rk_z64 0 (1 : Int64)) FU (by omega) (FU_gt (by omega)) ⟨rfl, by omega, fun j hj => by
        obtain rfl : j = 0 := by omega
        rw [updL_s]; rfl⟩
  subst h1
  refine ⟨b', ?_, fun n hn => h2 n (by omega)⟩
  rw [l0, q_setL (by omega) (by omega), Option.bind_some, l1, h3]
  unfold fX2_treeRow_L13
  rw [if_pos (show (30 : Int32) < nI 31 by decide)]
theorem q_xdesk : ∃ B Q V, fX2_init = some (B, Q, V) ∧ TB B ∧ TQ Q ∧ TK V := by
  obtain ⟨B, h1, h2⟩ := q_btri
  obtain ⟨Q, h3, h4⟩ := q_ptri
  obtain ⟨V, h5, h6⟩ := q_trow
  exact ⟨B, Q, V, by unfold fX2_init; rw [h1, h3, h5]; rfl, h2, h4, h6⟩
