/-! ===== pure part 1: loops, and the tables of numbers ===== -/
theorem lpK1 {K A ρ : Type} (f : K → (A → Option ρ) → A → Option ρ) (I : Nat → A → Prop) (e : Nat) (step : ∀ i a, i < e → I i a → ∃ a', I (i + 1) a' ∧ ∀ q g, f q g a = g a') : ∀ k i a n, i + k = e → k < n → I i a → ∃ a', I e a' ∧ ∀ q, ∃ m, rk_it1 (f q) n a = f q (rk_it1 (f q) m) a'
  | 0, i, a, n, hi, hn, h => by
    obtain ⟨m, rfl, -⟩ := suc_of hn
    obtain rfl : i = e := by omega
    exact ⟨a, h, fun q => ⟨m, rfl⟩⟩
  | k + 1, i, a, n, hi, hn, h => by
    obtain ⟨m, rfl, hm⟩ := suc_of hn
    obtain ⟨a', h1, h2⟩ := step i a (by omega) h
    obtain ⟨a2, h3, h4⟩ := lpK1 f I e step k (i + 1) a' m (by omega) (by omega) h1
    refine ⟨a2, h3, fun q => ?_⟩
    obtain ⟨m2, h5⟩ := h4 q
    exact ⟨m2, by rw [it1_s, h2]; exact h5⟩
theorem lpG1 {A ρ : Type} (f : (A → Option ρ) → A → Option ρ) (I : Nat → A → Prop) (e : Nat) (step : ∀ i a, i < e → I i a → ∃ a', I (i + 1) a' ∧ ∀ g, f g a = g a') (k i : Nat) (a : A) (n : Nat) (hi : i + k = e) (hn : k < n) (h : I i a) : ∃ a' m, I e a' ∧ rk_it1 f n a = f (rk_it1 f m) a' := by
  obtain ⟨a2, h3, h4⟩ := lpK1 (K := Unit) (fun _ => f) I e (fun i a hi h => by obtain ⟨a', h1, h2⟩ := step i a hi h; exact ⟨a', h1, fun _ => h2⟩) k i a n hi hn h
  obtain ⟨m, h5⟩ := h4 ()
  exact ⟨a2, m, h3, h5⟩
theorem lpK2 {K A B ρ : Type} (f : K → (A → B → Option ρ) → A → B → Option ρ) (I : Nat → A → B → Prop) (e : Nat) (step : ∀ i a b, i < e → I i a b → ∃ a' b', I (i + 1) a' b' ∧ ∀ q g, f q g a b = g a' b') : ∀ k i a b n, i + k = e → k < n → I i a b → ∃ a' b', I e a' b' ∧ ∀ q, ∃ m, rk_it2 (f q) n a b = f q (rk_it2 (f q) m) a' b'
  | 0, i, a, b, n, hi, hn, h => by
    obtain ⟨m, rfl, -⟩ := suc_of hn
    obtain rfl : i = e := by omega
    exact ⟨a, b, h, fun q => ⟨m, rfl⟩⟩
  | k + 1, i, a, b, n, hi, hn, h => by
    obtain ⟨m, rfl, hm⟩ := suc_of hn
    obtain ⟨a', b', h1, h2⟩ := step i a b (by omega) h
    obtain ⟨a2, b2, h3, h4⟩ := lpK2 f I e step k (i + 1) a' b' m (by omega) (by omega) h1
    refine ⟨a2, b2, h3, fun q => ?_⟩
    obtain ⟨m2, h5⟩ := h4 q
    exact ⟨m2, by rw [it2_s, h2]; exact h5⟩
theorem lpG2 {A B ρ : Type} (f : (A → B → Option ρ) → A → B → Option ρ) (I : Nat → A → B → Prop) (e : Nat) (step : ∀ i a b, i < e → I i a b → ∃ a' b', I (i + 1) a' b' ∧ ∀ g, f g a b = g a' b') (k i : Nat) (a : A) (b : B) (n : Nat) (hi : i + k = e) (hn : k < n) (h : I i a b) : ∃ a' b' m, I e a' b' ∧ rk_it2 f n a b = f (rk_it2 f m) a' b' := by
  obtain ⟨a2, b2, h3, h4⟩ := lpK2 (K := Unit) (fun _ => f) I e (fun i a b hi h => by obtain ⟨a', b', h1, h2⟩ := step i a b hi h; exact ⟨a', b', h1, fun _ => h2⟩) k i a b n hi hn h
  obtain ⟨m, h5⟩ := h4 ()
  exact ⟨a2, b2, m, h3, h5⟩
theorem lpK3 {K A B C ρ : Type} (f : K → (A → B → C → Option ρ) → A → B → C → Option ρ) (I : Nat → A → B → C → Prop) (e : Nat) (step : ∀ i a b c, i < e → I i a b c → ∃ a' b' c', I (i + 1) a' b' c' ∧ ∀ q g, f q g a b c = g a' b' c') : ∀ k i a b c n, i + k = e → k < n → I i a b c → ∃ a' b' c', I e a' b' c' ∧ ∀ q, ∃ m, rk_it3 (f q) n a b c = f q (rk_it3 (f q) m) a' b' c'
  | 0, i, a, b, c, n, hi, hn, h => by
    obtain ⟨m, rfl, -⟩ := suc_of hn
    obtain rfl : i = e := by omega
    exact ⟨a, b, c, h, fun q => ⟨m, rfl⟩⟩
  | k + 1, i, a, b, c, n, hi, hn, h => by
    obtain ⟨m, rfl, hm⟩ := suc_of hn
    obtain ⟨a', b', c', h1, h2⟩ := step i a b c (by omega) h
    obtain ⟨a2, b2, c2, h3, h4⟩ := lpK3 f I e step k (i + 1) a' b' c' m (by omega) (by omega) h1
    refine ⟨a2, b2, c2, h3, fun q => ?_⟩
    obtain ⟨m2, h5⟩ := h4 q
    exact ⟨m2, by rw [it3_s, h2]; exact h5⟩
theorem lpG3 {A B C ρ : Type} (f : (A → B → C → Option ρ) → A → B → C → Option ρ) (I : Nat → A → B → C → Prop) (e : Nat) (step : ∀ i a b c, i < e → I i a b c → ∃ a' b' c', I (i + 1) a' b' c' ∧ ∀ g, f g a b c = g a' b' c') (k i : Nat) (a : A) (b : B) (c : C) (n : Nat) (hi : i + k = e) (hn : k < n) (h : I i a b c) : ∃ a' b' c' m, I e a' b' c' ∧ rk_it3 f n a b c = f (rk_it3 f m) a' b' c' := by
  obtain ⟨a2, b2, c2, h3, h4⟩ := lpK3 (K := Unit) (fun _ => f) I e (fun i a b c hi h => by obtain ⟨a', b', c', h1, h2⟩ := step i a b c hi h; exact ⟨a', b', c', h1, fun _ => h2⟩) k i a b c n hi hn h
  obtain ⟨m, h5⟩ := h4 ()
  exact ⟨a2, b2, c2, m, h3, h5⟩
theorem lpK4 {K A B C D ρ : Type} (f : K → (A → B → C → D → Option ρ) → A → B → C → D → Option ρ) (I : Nat → A → B → C → D → Prop) (e : Nat) (step : ∀ i a b c d, i < e → I i a b c d → ∃ a' b' c' d', I (i + 1) a' b' c' d' ∧ ∀ q g, f q g a b c d = g a' b' c' d') : ∀ k i a b c d n, i + k = e → k < n → I i a b c d → ∃ a' b' c' d', I e a' b' c' d' ∧ ∀ q, ∃ m, rk_it4 (f q) n a b c d = f q (rk_it4 (f q) m) a' b' c' d'
  | 0, i, a, b, c, d, n, hi, hn, h => by
    obtain ⟨m, rfl, -⟩ := suc_of hn
    obtain rfl : i = e := by omega
    exact ⟨a, b, c, d, h, fun q => ⟨m, rfl⟩⟩
  | k + 1, i, a, b, c, d, n, hi, hn, h => by
    obtain ⟨m, rfl, hm⟩ := suc_of hn
    obtain ⟨a', b', c', d', h1, h2⟩ := step i a b c d (by omega) h
    obtain ⟨a2, b2, c2, d2, h3, h4⟩ := lpK4 f I e step k (i + 1) a' b' c' d' m (by omega) (by omega) h1
    refine ⟨a2, b2, c2, d2, h3, fun q => ?_⟩
    obtain ⟨m2, h5⟩ := h4 q
    exact ⟨m2, by rw [it4_s, h2]; exact h5⟩
theorem lpG4 {A B C D ρ : Type} (f : (A → B → C → D → Option ρ) → A → B → C → D → Option ρ) (I : Nat → A → B → C → D → Prop) (e : Nat) (step : ∀ i a b c d, i < e → I i a b c d → ∃ a' b' c' d', I (i + 1) a' b' c' d' ∧ ∀ g, f g a b c d = g a' b' c' d') (k i : Nat) (a : A) (b : B) (c : C) (d : D) (n : Nat) (hi : i + k = e) (hn : k < n) (h : I i a b c d) : ∃ a' b' c' d' m, I e a' b' c' d' ∧ rk_it4 f n a b c d = f (rk_it4 f m) a' b' c' d' := by
  obtain ⟨a2, b2, c2, d2, h3, h4⟩ := lpK4 (K := Unit) (fun _ => f) I e (fun i a b c d hi h => by obtain ⟨a', b', c', d', h1, h2⟩ := step i a b c d hi h; exact ⟨a', b', c', d', h1, fun _ => h2⟩) k i a b c d n hi hn h
  obtain ⟨m, h5⟩ := h4 ()
  exact ⟨a2, b2, c2, d2, m, h3, h5⟩
theorem lpK5 {K A B C D E ρ : Type} (f : K → (A → B → C → D → E → Option ρ) → A → B → C → D → E → Option ρ) (I : Nat → A → B → C → D → E → Prop) (e : Nat) (step : ∀ i a b c d x, i < e → I i a b c d x → ∃ a' b' c' d' x', I (i + 1) a' b' c' d' x' ∧ ∀ q g, f q g a b c d x = g a' b' c' d' x') : ∀ k i a b c d x n, i + k = e → k < n → I i a b c d x → ∃ a' b' c' d' x', I e a' b' c' d' x' ∧ ∀ q, ∃ m, rk_it5 (f q) n a b c d x = f q (rk_it5 (f q) m) a' b' c' d' x'
  | 0, i, a, b, c, d, x, n, hi, hn, h => by
    obtain ⟨m, rfl, -⟩ := suc_of hn
    obtain rfl : i = e := by omega
    exact ⟨a, b, c, d, x, h, fun q => ⟨m, rfl⟩⟩
  | k + 1, i, a, b, c, d, x, n, hi, hn, h => by
    obtain ⟨m, rfl, hm⟩ := suc_of hn
    obtain ⟨a', b', c', d', x', h1, h2⟩ := step i a b c d x (by omega) h
    obtain ⟨a2, b2, c2, d2, x2, h3, h4⟩ := lpK5 f I e step k (i + 1) a' b' c' d' x' m (by omega) (by omega) h1
    refine ⟨a2, b2, c2, d2, x2, h3, fun q => ?_⟩
    obtain ⟨m2, h5⟩ := h4 q
    exact ⟨m2, by rw [it5_s, h2]; exact h5⟩
theorem lpG5 {A B C D E ρ : Type} (f : (A → B → C → D → E → Option ρ) → A → B → C → D → E → Option ρ) (I : Nat → A → B → C → D → E → Prop) (e : Nat) (step : ∀ i a b c d x, i < e → I i a b c d x → ∃ a' b' c' d' x', I (i + 1) a' b' c' d' x' ∧ ∀ g, f g a b c d x = g a' b' c' d' x') (k i : Nat) (a : A) (b : B) (c : C) (d : D) (x : E) (n : Nat) (hi : i + k = e) (hn : k < n) (h : I i a b c d x) : ∃ a' b' c' d' x' m, I e a' b' c' d' x' ∧ rk_it5 f n a b c d x = f (rk_it5 f m) a' b' c' d' x' := by
  obtain ⟨a2, b2, c2, d2, x2, h3, h4⟩ := lpK5 (K := Unit) (fun _ => f) I e (fun i a b c d x hi h => by obtain ⟨a', b', c', d', x', h1, h2⟩ := step i a b c d x hi h; exact ⟨a', b', c', d', x', h1, fun _ => h2⟩) k i a b c d x n hi hn h
  obtain ⟨m, h5⟩ := h4 ()
  exact ⟨a2, b2, c2, d2, x2, m, h3, h5⟩
theorem lpK6 {K A B C D E F ρ : Type} (f : K → (A → B → C → D → E → F → Option ρ) → A → B → C → D → E → F → Option ρ) (I : Nat → A → B → C → D → E → F → Prop) (e : Nat) (step : ∀ i a b c d x y, i < e → I i a b c d x y → ∃ a' b' c' d' x' y', I (i + 1) a' b' c' d' x' y' ∧ ∀ q g, f q g a b c d x y = g a' b' c' d' x' y') : ∀ k i a b c d x y n, i + k = e → k < n → I i a b c d x y → ∃ a' b' c' d' x' y', I e a' b' c' d' x' y' ∧ ∀ q, ∃ m, rk_it6 (f q) n a b c d x y = f q (rk_it6 (f q) m) a' b' c' d' x' y'
  | 0, i, a, b, c, d, x, y, n, hi, hn, h => by
    obtain ⟨m, rfl, -⟩ := suc_of hn
    obtain rfl : i = e := by omega
    exact ⟨a, b, c, d, x, y, h, fun q => ⟨m, rfl⟩⟩
  | k + 1, i, a, b, c, d, x, y, n, hi, hn, h => by
    obtain ⟨m, rfl, hm⟩ := suc_of hn
    obtain ⟨a', b', c', d', x', y', h1, h2⟩ := step i a b c d x y (by omega) h
    obtain ⟨a2, b2, c2, d2, x2, y2, h3, h4⟩ := lpK6 f I e step k (i + 1) a' b' c' d' x' y' m (by omega) (by omega) h1
    refine ⟨a2, b2, c2, d2, x2, y2, h3, fun q => ?_⟩
    obtain ⟨m2, h5⟩ := h4 q
    exact ⟨m2, by rw [it6_s, h2]; exact h5⟩
theorem lpG6 {A B C D E F ρ : Type} (f : (A → B → C → D → E → F → Option ρ) → A → B → C → D → E → F → Option ρ) (I : Nat → A → B → C → D → E → F → Prop) (e : Nat) (step : ∀ i a b c d x y, i < e → I i a b c d x y → ∃ a' b' c' d' x' y', I (i + 1) a' b' c' d' x' y' ∧ ∀ g, f g a b c d x y = g a' b' c' d' x' y') (k i : Nat) (a : A) (b : B) (c : C) (d : D) (x : E) (y : F) (n : Nat) (hi : i + k = e) (hn : k < n) (h : I i a b c d x y) : ∃ a' b' c' d' x' y' m, I e a' b' c' d' x' y' ∧ rk_it6 f n a b c d x y = f (rk_it6 f m) a' b' c' d' x' y' := by
  obtain ⟨a2, b2, c2, d2, x2, y2, h3, h4⟩ := lpK6 (K := Unit) (fun _ => f) I e (fun i a b c d x y hi h => by obtain ⟨a', b', c', d', x', y', h1, h2⟩ := step i a b c d x y hi h; exact ⟨a', b', c', d', x', y', h1, fun _ => h2⟩) k i a b c d x y n hi hn h
  obtain ⟨m, h5⟩ := h4 ()
  exact ⟨a2, b2, c2, d2, x2, y2, m, h3, h5⟩
-- triangle numbers
def tri (n : Nat) : Nat := n * (n + 1) / 2
theorem tri_s (n : Nat) : tri (n + 1) = tri n + (n + 1) := by
  have e : (n + 1) * (n + 1 + 1) = n * (n + 1) + 2 * (n + 1) := by rw [Nat.mul_comm n (n + 1), Nat.mul_comm 2 (n + 1), ← Nat.mul_add]
  unfold tri; rw [e]; omega
theorem tri_m {a b : Nat} (h : a ≤ b) : tri a ≤ tri b := Nat.div_le_div_right (Nat.mul_le_mul h (by omega))
theorem tri_lt {a b k : Nat} (hk : k ≤ a) (h : a < b) : tri a + k < tri b := by
  have h1 := tri_s a
  have h2 := tri_m (a := a + 1) (b := b) h
  omega
theorem tri_inj {a b j k : Nat} (hj : j ≤ a) (hk : k ≤ b) (h : tri a + j = tri b + k) : a = b ∧ j = k := by
  rcases Nat.lt_trichotomy a b with q | q | q
  · have := tri_lt hj q; omega
  · subst q; omega
  · have := tri_lt hk q; omega
theorem q_spot' {n k : Nat} (hn : n ≤ 60) : fX2_spot (nI n) (nI k) = some (nI (tri n + k)) := q_spot hn
theorem tri_60 {n k : Nat} (hk : k ≤ n) (hn : n ≤ 60) : tri n + k < 1891 := spot_lt hk hn
def TBr (n : Nat) (T : Nat → Int64) : Prop := ∀ a j : Nat, j ≤ a → a < n → T (tri a + j) = lN (cb a j)
theorem q_btri : ∃ B, fX2_binomialTriangle = some B ∧ TB B := by
  unfold fX2_binomialTriangle
  obtain ⟨a', b', m, ⟨h1, h2⟩, h3⟩ := lpG2 fX2_binomialTriangle_L8 (fun n a T => a = nI n ∧ TBr n T) 61 (by
    rintro n a T hn ⟨rfl, hT⟩
    have e0 : tri n + 0 < 1891 := tri_60 (by omega) (by omega)
    have e1 : tri n + n < 1891 := tri_60 (by omega) (by omega)
    obtain ⟨a', U, ⟨rfl, -, hU, hr⟩, hq⟩ := lpK2 (fX2_binomialTriangle_L26 (nI n)) (fun k a U => a = nI k ∧ 1 ≤ k ∧ TBr n U ∧ ∀ j, j < k → j ≤ n → U (tri n + j) = lN (cb n j)) (max n 1) (by
      rintro k a U hk ⟨rfl, k1, hU, hr⟩
      have k2 : k < n := by omega
      have e1 : tri (n - 1) + (k - 1) < 1891 := tri_60 (by omega) (by omega)
      have e2 : tri (n - 1) + k < 1891 := tri_60 (by omega) (by omega)
      have e3 : tri n + k < 1891 := tri_60 (by omega) (by omega)
      refine ⟨nI (k + 1), vp_updL U (tri n + k) (U (tri (n - 1) + (k - 1)) + U (tri (n - 1) + k)), ⟨rfl, by omega, ?_, ?_⟩, fun q g => ?_⟩
      · intro a j hj ha
        rw [updL_n (fun h => by have := tri_inj (a := a) (b := n) hj (by omega) h; omega)]
        exact hU a j hj ha
      · intro j hj hjn
        by_cases hjk : j = k
        · subst hjk
          rw [updL_s, hU (n - 1) (j - 1) (by omega) (by omega), hU (n - 1) j (by omega) (by omega), Q_add]
          obtain ⟨n', rfl⟩ : ∃ n', n = n' + 1 := ⟨n - 1, by omega⟩
          obtain ⟨j', rfl⟩ : ∃ j', j = j' + 1 := ⟨j - 1, by omega⟩
          rw [cb_s]; rfl
        · rw [updL_n (by omega)]
          exact hr j (by omega) hjn
      · unfold fX2_binomialTriangle_L26
        simp (disch := omega) only [l1, q_le, q_sub, q_spot', Option.bind_some, q_atL, q_setL, q_add]
        rw [if_neg (by omega)]) (max n 1 - 1) 1 (nI 1) (vp_updL T (tri n + 0) (1 : Int64)) FU (by omega) (FU_gt (by omega)) (by
      refine ⟨rfl, by omega, ?_, ?_⟩
      · intro a j hj ha
        rw [updL_n (fun h => by have := tri_inj (a := a) (b := n) (k := 0) hj (by omega) h; omega)]
        exact hT a j hj ha
      · intro j hj hjn
        obtain rfl : j = 0 := by omega
        rw [updL_s, cb_0]; rfl)
    refine ⟨nI (n + 1), vp_updL U (tri n + n) (1 : Int64), ⟨rfl, ?_⟩, fun g => ?_⟩
    · intro a j hj ha
      by_cases q : a = n
      · subst q
        by_cases q2 : j = a
        · subst q2; rw [updL_s, cb_nn]; rfl
        · rw [updL_n (by omega)]; exact hr j (by omega) hj
      · rw [updL_n (fun h => by have := tri_inj (a := a) (b := n) hj (by omega) h; omega)]
        exact hU a j hj (by omega)
    · obtain ⟨m, hm⟩ := hq g
      unfold fX2_binomialTriangle_L8
      simp (disch := omega) only [l0, l60, q_lt, q_spot', Option.bind_some, q_setL]
      rw [if_neg (by omega)]
      refine hm.trans ?_
      unfold fX2_binomialTriangle_L26
      simp (disch := omega) only [l1, q_le, q_spot', Option.bind_some, q_setL, q_add]
      rw [if_pos (by omega)]) 61 0 (nI 0) rk_z64 FU (by omega) (FU_gt (by omega)) ⟨rfl, fun a j hj ha => by omega⟩
  subst h1
  refine ⟨b', ?_, fun n k hk hn => h2 n k hk (by omega)⟩
  rw [show ((0 : Int32)) = nI 0 from rfl, h3]
  unfold fX2_binomialTriangle_L8
  simp (disch := omega) only [l60, q_lt]
  rw [if_pos (by omega)]

-- the reference's table of binomial numbers, row by row of 61
def TCr (n : Nat) (T : Nat → Int64) : Prop := ∀ a j : Nat, j ≤ a → a < n → T (61 * a + j) = lN (cb a j)
theorem q_mcho (K : Int32 → (Nat → Int64) → Option ((Nat → Int64) × (Nat → Int64) × (Nat → Int64) × (Nat → Int64) × (Nat → Int64))) (n : Nat) (T : Nat → Int64) (hn : n < 61) (hT : TCr n T) : ∃ U, TCr (n + 1) U ∧ ∀ K, rk_it2 (fX10_init_L135 (nI n) K) FU (nI 0) T = K (nI (n + 1)) U := by
  obtain ⟨a', U, ⟨rfl, hU, hr⟩, hq⟩ := lpK2 (fX10_init_L135 (nI n)) (fun k a U => a = nI k ∧ TCr n U ∧ ∀ j, j < k → j ≤ n → U (61 * n + j) = lN (cb n j)) (n + 1) (by
    rintro k a U hk ⟨rfl, hU, hr⟩
    have put : ∀ v : Int64, v = lN (cb n k) → TCr n (vp_updL U (61 * n + k) v) ∧ ∀ j, j < k + 1 → j ≤ n → (vp_updL U (61 * n + k) v) (61 * n + j) = lN (cb n j) := by
      intro v hv
      constructor
      · intro a j hj ha
        rw [updL_n (by omega)]; exact hU a j hj ha
      · intro j hj hjn
        by_cases q : j = k
        · subst q; rw [updL_s, hv]
        · rw [updL_n (by omega)]; exact hr j (by omega) hjn
    by_cases c0 : k = 0
    · subst c0
      refine ⟨nI (0 + 1), vp_updL U (61 * n + 0) (1 : Int64), ⟨rfl, put _ (by rw [cb_0]; rfl)⟩, fun q g => ?_⟩
      unfold fX10_init_L135 fX10_init_B159 fX10_init_B192
      simp (disch := omega) only [l0, l61, l1, q_lt, q_eq, q_mul, q_add, q_cl]
      rw [if_neg (by omega), if_pos trivial, if_neg (by omega)]
    · by_cases c1 : k = n
      · subst c1
        refine ⟨nI (k + 1), vp_updL U (61 * k + k) (1 : Int64), ⟨rfl, put _ (by rw [cb_nn]; rfl)⟩, fun q g => ?_⟩
        unfold fX10_init_L135 fX10_init_B159 fX10_init_B192
        simp (disch := omega) only [l0, l61, l1, q_lt, q_eq, q_mul, q_add, q_cl]
        rw [if_neg (by omega), if_neg c0, if_neg (by simp), if_neg (by omega)]
      · refine ⟨nI (k + 1), vp_updL U (61 * n + k) (U (61 * (n - 1) + k - 1) + U (61 * (n - 1) + k)), ⟨rfl, put _ ?_⟩, fun q g => ?_⟩
        · obtain ⟨n', rfl⟩ : ∃ n', n = n' + 1 := ⟨n - 1, by omega⟩
          obtain ⟨j', rfl⟩ : ∃ j', k = j' + 1 := ⟨k - 1, by omega⟩
          have e1 := hU n' j' (by omega) (by omega)
          have e2 := hU n' (j' + 1) (by omega) (by omega)
          rw [show 61 * (n' + 1 - 1) + (j' + 1) - 1 = 61 * n' + j' by omega, show 61 * (n' + 1 - 1) + (j' + 1) = 61 * n' + (j' + 1) by omega, e1, e2, Q_add, cb_s]
        · unfold fX10_init_L135 fX10_init_B159 fX10_init_B192
          simp (disch := omega) only [l0, l61, l1, q_lt, q_eq, q_mul, q_add, q_cl, q_sub]
          rw [if_neg (by omega), if_neg c0, if_pos c1, if_neg (by omega), if_neg (by omega), if_neg (by omega)]) (n + 1) 0 (nI 0) T FU (by omega) (FU_gt (by omega)) ⟨rfl, hT, fun j hj _ => by omega⟩
  refine ⟨U, ?_, fun K => ?_⟩
  · intro a j hj ha
    by_cases q : a = n
    · subst q; exact hr j (by omega) hj
    · exact hU a j hj (by omega)
  · obtain ⟨m, hm⟩ := hq K
    rw [hm]
    unfold fX10_init_L135
    simp (disch := omega) only [l1, q_lt, q_add]
    rw [if_pos (by omega)]
