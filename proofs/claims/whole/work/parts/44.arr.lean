/-! ===== pure part 14: arrangements ===== -/
def mu (c : Nat → Nat) : Nat := cb (c 0 + c 1 + c 2 + c 3) (c 0) * cb (c 1 + c 2 + c 3) (c 1) * cb (c 2 + c 3) (c 2)
def dn (c : Nat → Nat) (x : Nat) : Nat → Nat := fun y => if y = x then c y - 1 else c y
def wy (c : Nat → Nat) (x : Nat) : Nat := if c x = 0 then 0 else mu (dn c x)
def ls (c : Nat → Nat) : Nat → Nat
  | 0 => 0
  | x + 1 => ls c x + wy c x
theorem ls_s (c : Nat → Nat) (x : Nat) : ls c (x + 1) = ls c x + wy c x := rfl
def sm (c : Nat → Nat) : Nat := c 0 + c 1 + c 2 + c 3
theorem dn_x (c : Nat → Nat) (x : Nat) : dn c x x = c x - 1 := if_pos rfl
theorem dn_n {c : Nat → Nat} {x y : Nat} (h : y ≠ x) : dn c x y = c y := if_neg h
theorem sm_dn {c : Nat → Nat} {x : Nat} (hx : x < 4) (h : c x ≠ 0) : sm (dn c x) + 1 = sm c := by
  have hx : x = 0 ∨ x = 1 ∨ x = 2 ∨ x = 3 := by omega
  unfold sm
  rcases hx with rfl | rfl | rfl | rfl
  · rw [dn_x, dn_n (by omega), dn_n (by omega), dn_n (by omega)]; omega
  · rw [dn_x, dn_n (by omega), dn_n (by omega), dn_n (by omega)]; omega
  · rw [dn_x, dn_n (by omega), dn_n (by omega), dn_n (by omega)]; omega
  · rw [dn_x, dn_n (by omega), dn_n (by omega), dn_n (by omega)]; omega
theorem pas {n k : Nat} (h : 0 < n) : cb n k = (if k = 0 then 0 else cb (n - 1) (k - 1)) + cb (n - 1) k := by
  obtain ⟨m, rfl⟩ : ∃ m, n = m + 1 := ⟨n - 1, by omega⟩
  rw [Nat.add_sub_cancel]
  by_cases c : k = 0
  · subst c; rw [if_pos rfl, cb_0, cb_0]
  · obtain ⟨j, rfl⟩ : ∃ j, k = j + 1 := ⟨k - 1, by omega⟩
    rw [if_neg c, cb_s]; rfl
theorem alg3 {A A0 A1 B B0 B1 C C0 C1 : Nat} (h1 : A = A0 + A1) (h2 : B = B0 + B1) (h3 : C = C0 + C1) : A * B * C = A0 * B * C + A1 * B0 * C + A1 * B1 * C0 + A1 * B1 * C1 := by
  have e1 : A * B * C = A0 * B * C + A1 * B * C := by rw [h1, Nat.add_mul, Nat.add_mul]
  have e2 : A1 * B * C = A1 * B0 * C + A1 * B1 * C := by rw [h2, Nat.mul_add, Nat.add_mul]
  have e3 : A1 * B1 * C = A1 * B1 * C0 + A1 * B1 * C1 := by rw [h3, Nat.mul_add]
  rw [e1, e2, e3]; omega
theorem mu_wy {c : Nat → Nat} (h : 0 < sm c) : mu c = ls c 4 := by
  have e : ls c 4 = wy c 0 + wy c 1 + wy c 2 + wy c 3 := by
    rw [ls_s, ls_s, ls_s, ls_s]; show 0 + wy c 0 + wy c 1 + wy c 2 + wy c 3 = _; omega
  rw [e]
  unfold wy mu
  rw [dn_x, dn_x, dn_x, dn_x, dn_n (x := 0) (y := 1) (by omega), dn_n (x := 0) (y := 2) (by omega), dn_n (x := 0) (y := 3) (by omega), dn_n (x := 1) (y := 0) (by omega), dn_n (x := 1) (y := 2) (by omega), dn_n (x := 1) (y := 3) (by omega), dn_n (x := 2) (y := 0) (by omega), dn_n (x := 2) (y := 1) (by omega), dn_n (x := 2) (y := 3) (by omega), dn_n (x := 3) (y := 0) (by omega), dn_n (x := 3) (y := 1) (by omega), dn_n (x := 3) (y := 2) (by omega)]
  unfold sm at h
  generalize c 0 = p at *
  generalize c 1 = q at *
  generalize c 2 = s at *
  generalize c 3 = t at *
  have h1 := pas (n := p + q + s + t) (k := p) h
  by_cases h2 : 0 < q + s + t
  · have h3 := pas (n := q + s + t) (k := q) h2
    by_cases h4 : 0 < s + t
    · have h5 := pas (n := s + t) (k := s) h4
      have f1 : (if p = 0 then 0 else cb (p - 1 + q + s + t) (p - 1) * cb (q + s + t) q * cb (s + t) s) = (if p = 0 then 0 else cb (p + q + s + t - 1) (p - 1)) * cb (q + s + t) q * cb (s + t) s := by
        by_cases z : p = 0
        · rw [if_pos z, if_pos z, Nat.zero_mul, Nat.zero_mul]
        · rw [if_neg z, if_neg z, show p - 1 + q + s + t = p + q + s + t - 1 by omega]
      have f2 : (if q = 0 then 0 else cb (p + (q - 1) + s + t) p * cb (q - 1 + s + t) (q - 1) * cb (s + t) s) = cb (p + q + s + t - 1) p * (if q = 0 then 0 else cb (q + s + t - 1) (q - 1)) * cb (s + t) s := by
        by_cases z : q = 0
        · rw [if_pos z, if_pos z, Nat.mul_zero, Nat.zero_mul]
        · rw [if_neg z, if_neg z, show p + (q - 1) + s + t = p + q + s + t - 1 by omega, show q - 1 + s + t = q + s + t - 1 by omega]
      have f3 : (if s = 0 then 0 else cb (p + q + (s - 1) + t) p * cb (q + (s - 1) + t) q * cb (s - 1 + t) (s - 1)) = cb (p + q + s + t - 1) p * cb (q + s + t - 1) q * (if s = 0 then 0 else cb (s + t - 1) (s - 1)) := by
        by_cases z : s = 0
        · rw [if_pos z, if_pos z, Nat.mul_zero]
        · rw [if_neg z, if_neg z, show p + q + (s - 1) + t = p + q + s + t - 1 by omega, show q + (s - 1) + t = q + s + t - 1 by omega, show s - 1 + t = s + t - 1 by omega]
      have f4 : (if t = 0 then 0 else cb (p + q + s + (t - 1)) p * cb (q + s + (t - 1)) q * cb (s + (t - 1)) s) = cb (p + q + s + t - 1) p * cb (q + s + t - 1) q * cb (s + t - 1) s := by
        by_cases z : t = 0
        · subst z; rw [if_pos rfl, cb_out (n := s + 0 - 1) (k := s) (by omega), Nat.mul_zero]
        · rw [if_neg z, show p + q + s + (t - 1) = p + q + s + t - 1 by omega, show q + s + (t - 1) = q + s + t - 1 by omega, show s + (t - 1) = s + t - 1 by omega]
      rw [f1, f2, f3, f4]
      exact alg3 h1 h3 h5
    · obtain rfl : s = 0 := by omega
      obtain rfl : t = 0 := by omega
      simp only [Nat.add_zero, cb_nn, cb_0, Nat.mul_one, if_true] at h1 h2 ⊢
      rw [h1, if_neg (show ¬ q = 0 by omega), show p + (q - 1) = p + q - 1 by omega]
      by_cases z : p = 0
      · rw [if_pos z, if_pos z]
      · rw [if_neg z, if_neg z, show p - 1 + q = p + q - 1 by omega]
  · obtain rfl : q = 0 := by omega
    obtain rfl : s = 0 := by omega
    obtain rfl : t = 0 := by omega
    simp only [Nat.add_zero, cb_nn, cb_0, Nat.mul_one] at h ⊢
    rw [if_neg (show ¬ p = 0 by omega)]; rfl
theorem mu_pos (c : Nat → Nat) : 0 < mu c := by
  unfold mu
  exact Nat.mul_pos (Nat.mul_pos (cb_pos (by omega)) (cb_pos (by omega))) (cb_pos (by omega))
theorem mu_pow : ∀ N (c : Nat → Nat), sm c = N → mu c ≤ 4 ^ N
  | 0, c, h => by
    unfold sm at h
    have h0 : c 0 = 0 := by omega
    have h1 : c 1 = 0 := by omega
    have h2 : c 2 = 0 := by omega
    have h3 : c 3 = 0 := by omega
    unfold mu
    rw [h0, h1, h2, h3]; decide
  | N + 1, c, h => by
    rw [mu_wy (by omega), ls_s, ls_s, ls_s, ls_s]
    have k : ∀ x, x < 4 → wy c x ≤ 4 ^ N := by
      intro x hx
      unfold wy
      by_cases z : c x = 0
      · rw [if_pos z]; exact Nat.zero_le _
      · rw [if_neg z]
        have := sm_dn hx z
        exact mu_pow N (dn c x) (by omega)
    have k0 := k 0 (by omega)
    have k1 := k 1 (by omega)
    have k2 := k 2 (by omega)
    have k3 := k 3 (by omega)
    have e : ls c 0 = 0 := rfl
    rw [Nat.pow_succ]
    omega
theorem mu_lt {c : Nat → Nat} (h : sm c ≤ 20) : mu c ≤ 1099511627776 := by
  have h1 := mu_pow (sm c) c rfl
  have h2 : 4 ^ sm c ≤ 4 ^ 20 := Nat.pow_le_pow_right (by omega) h
  have h3 : 4 ^ 20 = 1099511627776 := by decide
  omega
theorem ls_mono {c : Nat → Nat} : ∀ {x y}, x ≤ y → ls c x ≤ ls c y
  | x, 0, h => by obtain rfl : x = 0 := by omega
                  omega
  | x, y + 1, h => by
    by_cases e : x = y + 1
    · subst e; omega
    · have := ls_mono (c := c) (x := x) (y := y) (by omega)
      rw [ls_s]; omega
theorem wy_le {c : Nat → Nat} {x : Nat} (hx : x < 4) (h : 0 < sm c) : ls c x + wy c x ≤ mu c := by
  rw [mu_wy h, ← ls_s]; exact ls_mono (by omega)
/-- a row of four numbers -/
def L4 (L : Nat → Int32) (c : Nat → Nat) : Prop := ∀ y, y < 4 → L y = nI (c y)
theorem L4_dn {L : Nat → Int32} {c : Nat → Nat} (h : L4 L c) {x : Nat} (hz : c x ≠ 0) (hx : x < 4) : L4 (upd L x (nI (c x - 1))) (dn c x) := by
  intro y hy
  by_cases e : y = x
  · subst e; rw [upd_s, dn_x]
  · rw [upd_n e, dn_n e]; exact h y hy
theorem sm_x {c : Nat → Nat} {x : Nat} (hx : x < 4) : c x ≤ sm c := by
  have hx : x = 0 ∨ x = 1 ∨ x = 2 ∨ x = 3 := by omega
  unfold sm
  rcases hx with rfl | rfl | rfl | rfl <;> omega
theorem upd_upd (L : Nat → Int32) (x : Nat) (u v : Int32) : upd (upd L x u) x v = upd L x v := by
  funext j
  by_cases e : j = x
  · subst e; rw [upd_s, upd_s]
  · rw [upd_n e, upd_n e, upd_n e]
theorem x_chg {L : Nat → Int32} {x : Nat} (hx : x < 4) (u : Int32) : fX1_change L (nI x) u = some (upd L x (L x + u)) := by
  unfold fX1_change
  rw [q_at (by omega) (by omega), Option.bind_some, q_set (by omega) (by omega), Option.bind_some]
theorem x_arr {B : Nat → Int64} (hB : TB B) {p q s t : Nat} (h : p + q + s + t ≤ 20) : fX2_arrangements B (nI p) (nI q) (nI s) (nI t) = some (lN (cb (p + q + s + t) p * cb (q + s + t) q * cb (s + t) s)) := by
  unfold fX2_arrangements
  rw [q_add, q_add, q_add, q_bin hB (by omega) (by omega), Option.bind_some, q_add, q_add, q_bin hB (by omega) (by omega), Option.bind_some, q_add, q_bin hB (by omega) (by omega), Option.bind_some, Q_mul, Q_mul]
theorem m_arr {T : Nat → Int64} (hT : TC T) {p q s t : Nat} (h : p + q + s + t ≤ 20) : fX10_arranged T (nI p) (nI q) (nI s) (nI t) = some (lN (cb (p + q + s + t) p * cb (q + s + t) q * cb (s + t) s)) := by
  unfold fX10_arranged
  rw [q_add, q_add, q_add, q_cho hT (by omega) (by omega), Option.bind_some, q_add, q_add, q_cho hT (by omega) (by omega), Option.bind_some, q_add, q_cho hT (by omega) (by omega), Option.bind_some, Q_mul, Q_mul]
theorem x_ways {B : Nat → Int64} (hB : TB B) {L : Nat → Int32} {c : Nat → Nat} (hL : L4 L c) (hs : sm c ≤ 20) {x : Nat} (hx : x < 4) : fX1_waysAfter L B (nI x) = some (lN (wy c x), L) := by
  have h1 := sm_x (c := c) hx
  unfold fX1_waysAfter wy
  rw [q_at (by omega) (by omega), Option.bind_some, hL x hx]
  by_cases z : c x = 0
  · rw [if_pos z, if_neg (by rw [l1, q_le (by omega) (by omega)]; omega), L0]
  · rw [if_neg z, if_pos (by rw [l1, q_le (by omega) (by omega)]; omega), x_chg hx, Option.bind_some, hL x hx, q_m1 (by omega)]
    have hD := L4_dn hL z hx
    have h2 := sm_dn hx z
    have hs2 : dn c x 0 + dn c x 1 + dn c x 2 + dn c x 3 ≤ 20 := by show sm (dn c x) ≤ 20; omega
    have a0 : (0 : Int32) = nI 0 := rfl
    rw [a0, l1, l2, l3, q_at (i := 0) (by omega) (by omega), Option.bind_some, q_at (i := 1) (by omega) (by omega), Option.bind_some, q_at (i := 2) (by omega) (by omega), Option.bind_some, q_at (i := 3) (by omega) (by omega), Option.bind_some, hD 0 (by omega), hD 1 (by omega), hD 2 (by omega), hD 3 (by omega), x_arr hB hs2, Option.bind_some, x_chg hx, Option.bind_some, upd_s, q_add, upd_upd, show c x - 1 + 1 = c x by omega, ← hL x hx, upd_self]
    rfl
theorem m_ways {T : Nat → Int64} (hT : TC T) {L : Nat → Int32} {c : Nat → Nat} (hL : L4 L c) (hs : sm c ≤ 20) {x : Nat} (hx : x < 4) : fX10_waysWithout L T (nI x) = some (lN (wy c x), L) := by
  have h1 := sm_x (c := c) hx
  have g1 : ¬ (nI x < 0 ∨ 4 ≤ x) := by rw [l0, q_lt (by omega) (by omega)]; omega
  unfold fX10_waysWithout wy
  rw [q_cl (by omega), if_neg g1, hL x hx]
  by_cases z : c x = 0
  · rw [if_pos z, if_neg (by rw [z]; exact fun q => q rfl), L0]
  · rw [if_neg z, if_pos (by rw [l0, q_eq (by omega) (by omega)]; omega), l1, q_sub (by omega)]
    have hD := L4_dn hL z hx
    have h2 := sm_dn hx z
    have hs2 : dn c x 0 + dn c x 1 + dn c x 2 + dn c x 3 ≤ 20 := by show sm (dn c x) ≤ 20; omega
    rw [hD 0 (by omega), hD 1 (by omega), hD 2 (by omega), hD 3 (by omega), m_arr hT hs2, Option.bind_some, upd_s, q_add, upd_upd, show c x - 1 + 1 = c x by omega, ← hL x hx, upd_self]
    rfl
