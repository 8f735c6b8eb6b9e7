/-! ===== pure part 0: numbers, loops, rows, the small helpers of the class ===== -/
theorem it1_s {A ρ : Type} (f : (A → Option ρ) → A → Option ρ) (n : Nat) (a : A) : rk_it1 f (n + 1) a = f (rk_it1 f n) a := rfl
theorem it2_s {A B ρ : Type} (f : (A → B → Option ρ) → A → B → Option ρ) (n : Nat) (a : A) (b : B) : rk_it2 f (n + 1) a b = f (rk_it2 f n) a b := rfl
theorem it3_s {A B C ρ : Type} (f : (A → B → C → Option ρ) → A → B → C → Option ρ) (n : Nat) (a : A) (b : B) (c : C) : rk_it3 f (n + 1) a b c = f (rk_it3 f n) a b c := rfl
theorem it4_s {A B C D ρ : Type} (f : (A → B → C → D → Option ρ) → A → B → C → D → Option ρ) (n : Nat) (a : A) (b : B) (c : C) (d : D) : rk_it4 f (n + 1) a b c d = f (rk_it4 f n) a b c d := rfl
theorem it5_s {A B C D E ρ : Type} (f : (A → B → C → D → E → Option ρ) → A → B → C → D → E → Option ρ) (n : Nat) (a : A) (b : B) (c : C) (d : D) (e : E) : rk_it5 f (n + 1) a b c d e = f (rk_it5 f n) a b c d e := rfl
theorem it6_s {A B C D E F ρ : Type} (f : (A → B → C → D → E → F → Option ρ) → A → B → C → D → E → F → Option ρ) (n : Nat) (a : A) (b : B) (c : C) (d : D) (e : E) (g : F) : rk_it6 f (n + 1) a b c d e g = f (rk_it6 f n) a b c d e g := rfl
theorem FU_gt {k : Nat} (h : k < 4000) : k < FU := by rw [FU_eq]; exact h
theorem suc_of {k n : Nat} (h : k < n) : ∃ m, n = m + 1 ∧ k ≤ m := ⟨n - 1, by omega, by omega⟩
-- numbers
theorem l0 : (0 : Int32) = nI 0 := rfl
theorem l1 : (1 : Int32) = nI 1 := rfl
theorem l2 : (2 : Int32) = nI 2 := rfl
theorem l3 : (3 : Int32) = nI 3 := rfl
theorem l4 : (4 : Int32) = nI 4 := rfl
theorem l20 : (20 : Int32) = nI 20 := rfl
theorem l60 : (60 : Int32) = nI 60 := rfl
theorem l61 : (61 : Int32) = nI 61 := rfl
theorem l42 : (42 : Int32) = nI 42 := rfl
theorem l41 : (41 : Int32) = nI 41 := rfl
theorem l21 : (21 : Int32) = nI 21 := rfl
theorem l31 : (31 : Int32) = nI 31 := rfl
theorem L0 : (0 : Int64) = lN 0 := rfl
theorem L1 : (1 : Int64) = lN 1 := rfl
theorem L2 : (2 : Int64) = lN 2 := rfl
theorem q_le {a b : Nat} (ha : a < 2147483648) (hb : b < 2147483648) : (nI a ≤ nI b) = (a ≤ b) := propext (nI_leI ha hb)
theorem q_lt {a b : Nat} (ha : a < 2147483648) (hb : b < 2147483648) : (nI a < nI b) = (a < b) := propext (nI_ltI ha hb)
theorem q_eq {a b : Nat} (ha : a < 2147483648) (hb : b < 2147483648) : (nI a = nI b) = (a = b) := propext (nI_eq ha hb)
theorem q_cl {a : Nat} (ha : a < 2147483648) : (nI a).toNatClampNeg = a := nI_clamp ha
theorem q_sub {a b : Nat} (h : b ≤ a) : nI a - nI b = nI (a - b) := pk_sub h
theorem q_m1 {a : Nat} (h : 1 ≤ a) : nI a + (-1) = nI (a - 1) := by
  obtain ⟨n, rfl⟩ : ∃ n, a = n + 1 := ⟨a - 1, by omega⟩
  exact pk_m1 n
theorem q_add (a b : Nat) : nI a + nI b = nI (a + b) := nI_add a b
theorem q_mul (a b : Nat) : nI a * nI b = nI (a * b) := pk_mul a b
theorem q_div {a d : Nat} (ha : a < 2147483648) (h0 : 0 < d) (hd : d < 2147483648) : nI a / nI d = nI (a / d) := pk_div ha h0 hd
theorem q_rem {a d : Nat} (ha : a < 2147483648) (h0 : 0 < d) (hd : d < 2147483648) : nI a - nI a / nI d * nI d = nI (a % d) := pk_rem ha h0 hd
theorem q_i2l {a : Nat} (ha : a < 2147483648) : (nI a).toInt64 = lN a := nI_l ha
theorem q_l2i (a : Nat) : (lN a).toInt32 = nI a := lN_i a
theorem Q_le {a b : Nat} (ha : a < 9223372036854775808) (hb : b < 9223372036854775808) : (lN a ≤ lN b) = (a ≤ b) := propext (pk_lLE ha hb)
theorem Q_lt {a b : Nat} (ha : a < 9223372036854775808) (hb : b < 9223372036854775808) : (lN a < lN b) = (a < b) := propext (pk_lLT ha hb)
theorem Q_eq {a b : Nat} (ha : a < 9223372036854775808) (hb : b < 9223372036854775808) : (lN a = lN b) = (a = b) := propext (pk_lEQ ha hb)
theorem Q_add (a b : Nat) : lN a + lN b = lN (a + b) := lN_add a b
theorem Q_mul (a b : Nat) : lN a * lN b = lN (a * b) := lN_mul a b
theorem Q_sub {a b : Nat} (h : b ≤ a) : lN a - lN b = lN (a - b) := lN_sub h
theorem Q_div {a b : Nat} (ha : a < 9223372036854775808) (h0 : 0 < b) (hb : b < 9223372036854775808) : lN a / lN b = lN (a / b) := pk_lDiv ha h0 hb
theorem Q_rem {a b : Nat} (ha : a < 9223372036854775808) (h0 : 0 < b) (hb : b < 9223372036854775808) : lN a - lN a / lN b * lN b = lN (a % b) := pk_lRem ha h0 hb
-- the class's helpers
theorem q_at {n i : Nat} {c : Nat → Int32} (hi : i < n) (hn : n < 2147483648) : fX9_at n c (nI i) = some (c i) := by
  have e : (Int32.ofNat n) = nI n := rfl
  simp (disch := omega) only [fX9_at, l0, q_lt, q_le, q_cl, e]
  rw [if_neg (by omega), if_neg (by omega), if_neg (by omega)]
theorem q_atL {n i : Nat} {c : Nat → Int64} (hi : i < n) (hn : n < 2147483648) : fX9_at_ n c (nI i) = some (c i) := by
  have e : (Int32.ofNat n) = nI n := rfl
  simp (disch := omega) only [fX9_at_, l0, q_lt, q_le, q_cl, e]
  rw [if_neg (by omega), if_neg (by omega), if_neg (by omega)]
theorem q_set {n i : Nat} {c : Nat → Int32} {v : Int32} (hi : i < n) (hn : n < 2147483648) : fX9_set n c (nI i) v = some (upd c i v) := by
  have e : (Int32.ofNat n) = nI n := rfl
  simp (disch := omega) only [fX9_set, l0, q_lt, q_le, q_cl, e]
  rw [if_neg (by omega), if_neg (by omega), if_neg (by omega)]
theorem q_setL {n i : Nat} {c : Nat → Int64} {v : Int64} (hi : i < n) (hn : n < 2147483648) : fX9_set_ n c (nI i) v = some (vp_updL c i v) := by
  have e : (Int32.ofNat n) = nI n := rfl
  simp (disch := omega) only [fX9_set_, l0, q_lt, q_le, q_cl, e]
  rw [if_neg (by omega), if_neg (by omega), if_neg (by omega)]
theorem q_quo {a b : Nat} (ha : a < 9223372036854775808) (h0 : 0 < b) (hb : b < 9223372036854775808) : fX9_quotient (lN a) (lN b) = some (lN (a / b)) := by
  simp (disch := omega) only [fX9_quotient, L0, Q_lt, Q_le, Q_eq, Q_div]
  first | rw [if_neg (by omega), if_neg (by omega)] | (rw [if_pos (by omega), if_neg (by omega)]) | (simp <;> omega)
theorem q_rmd {a b : Nat} (ha : a < 9223372036854775808) (h0 : 0 < b) (hb : b < 9223372036854775808) : fX9_remainder (lN a) (lN b) = some (lN (a % b)) := by
  simp (disch := omega) only [fX9_remainder, L0, Q_lt, Q_le, Q_eq, Q_rem]
  first | rw [if_neg (by omega), if_neg (by omega)] | (rw [if_pos (by omega), if_neg (by omega)]) | (simp <;> omega)
theorem upd_s (f : Nat → Int32) (k : Nat) (x : Int32) : upd f k x k = x := pk_us
theorem upd_n {f : Nat → Int32} {k j : Nat} {x : Int32} (h : j ≠ k) : upd f k x j = f j := pk_un h
theorem updL_s (f : Nat → Int64) (k : Nat) (x : Int64) : vp_updL f k x k = x := pk_uLs
theorem updL_n {f : Nat → Int64} {k j : Nat} {x : Int64} (h : j ≠ k) : vp_updL f k x j = f j := pk_uLn h
theorem upd_self (f : Nat → Int32) (k : Nat) : upd f k (f k) = f := by funext j; unfold upd; split <;> simp_all
-- binomial numbers
def cb : Nat → Nat → Nat
  | _, 0 => 1
  | 0, _ + 1 => 0
  | n + 1, k + 1 => cb n k + cb n (k + 1)
theorem cb_0 (n : Nat) : cb n 0 = 1 := by cases n <;> rfl
theorem cb_s (n k : Nat) : cb (n + 1) (k + 1) = cb n k + cb n (k + 1) := rfl
theorem cb_out : ∀ {n k : Nat}, n < k → cb n k = 0
  | 0, k + 1, _ => rfl
  | n + 1, k + 1, h => by rw [cb_s, cb_out (by omega), cb_out (by omega)]
theorem cb_nn : ∀ n : Nat, cb n n = 1
  | 0 => rfl
  | n + 1 => by rw [cb_s, cb_nn n, cb_out (by omega)]
theorem cb_pow : ∀ n k : Nat, cb n k ≤ 2 ^ n
  | n, 0 => by rw [cb_0]; exact Nat.one_le_two_pow
  | 0, k + 1 => Nat.zero_le _
  | n + 1, k + 1 => by
    have h1 := cb_pow n k
    have h2 := cb_pow n (k + 1)
    rw [cb_s, Nat.pow_succ]; omega
theorem cb_lt {n k : Nat} (h : n ≤ 60) : cb n k ≤ 1152921504606846976 := by
  have h1 := cb_pow n k
  have h2 : 2 ^ n ≤ 2 ^ 60 := Nat.pow_le_pow_right (by omega) h
  omega
theorem cb_pos : ∀ {n k : Nat}, k ≤ n → 0 < cb n k
  | n, 0, _ => by rw [cb_0]; omega
  | n + 1, k + 1, h => by rw [cb_s]; have := cb_pos (n := n) (k := k) (by omega); omega
def TB (B : Nat → Int64) : Prop := ∀ n k : Nat, k ≤ n → n ≤ 60 → B (n * (n + 1) / 2 + k) = lN (cb n k)
def TC (T : Nat → Int64) : Prop := ∀ n k : Nat, k ≤ n → n ≤ 60 → T (61 * n + k) = lN (cb n k)
theorem spot_lt {n k : Nat} (hk : k ≤ n) (hn : n ≤ 60) : n * (n + 1) / 2 + k < 1891 := by
  have : n * (n + 1) ≤ 60 * 61 := Nat.mul_le_mul hn (by omega)
  by_cases h : n = 60
  · subst h; omega
  · have : n * (n + 1) ≤ 59 * 60 := Nat.mul_le_mul (by omega) (by omega)
    omega
theorem q_spot {n k : Nat} (hn : n ≤ 60) : fX2_spot (nI n) (nI k) = some (nI (n * (n + 1) / 2 + k)) := by
  have : n * (n + 1) ≤ 60 * 61 := Nat.mul_le_mul hn (by omega)
  unfold fX2_spot
  rw [l1, l2, q_add, q_mul, q_div (by omega) (by omega) (by omega), q_add]
theorem q_bin {B : Nat → Int64} (hB : TB B) {n k : Nat} (hn : n ≤ 60) (hk : k < 2147483648) : fX2_binomial B (nI n) (nI k) = some (lN (cb n k)) := by
  unfold fX2_binomial fX2_binomial_B15
  by_cases h : n < k
  · simp (disch := omega) only [l0, l60, q_lt, q_le]
    rw [if_neg (by omega), if_pos h, cb_out h]; rfl
  · have hs := spot_lt (n := n) (k := k) (by omega) hn
    simp (disch := omega) only [l0, l60, q_lt, q_le, q_spot, Option.bind_some, q_atL]
    rw [if_neg (by omega), if_neg h, if_pos hn, hB n k (by omega) hn]
theorem q_binm {B : Nat → Int64} {n : Nat} : fX2_binomial B (nI n) (-1) = some (lN 0) := by
  unfold fX2_binomial fX2_binomial_B15
  rw [if_pos (by decide)]; rfl
theorem q_cho {T : Nat → Int64} (hT : TC T) {n k : Nat} (hn : n ≤ 60) (hk : k < 2147483648) : fX10_choose T (nI n) (nI k) = some (lN (cb n k)) := by
  unfold fX10_choose fX10_choose_B9
  by_cases h : n < k
  · simp (disch := omega) only [l0, l61, q_lt, q_le]
    rw [if_neg (by omega), if_neg (by omega), cb_out h]; rfl
  · have hs : 61 * n + k < 3721 := by omega
    simp (disch := omega) only [l0, l61, q_lt, q_le, q_mul, q_add, q_cl]
    rw [if_neg (by omega), if_pos (by omega), if_neg (by omega), hT n k (by omega) hn]
