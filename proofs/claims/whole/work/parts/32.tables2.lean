/-! ===== pure part 2: factorials, Catalan numbers, partitions, ballot numbers ===== -/
def fc : Nat → Nat
  | 0 => 1
  | n + 1 => (n + 1) * fc n
theorem fc_s (n : Nat) : fc (n + 1) = (n + 1) * fc n := rfl
theorem fc_pos : ∀ n, 0 < fc n
  | 0 => by decide
  | n + 1 => by rw [fc_s]; exact Nat.mul_pos (by omega) (fc_pos n)
theorem fc_mono : ∀ {n m : Nat}, n ≤ m → fc n ≤ fc m
  | n, 0, h => by obtain rfl : n = 0 := by omega
                  exact Nat.le_refl _
  | n, m + 1, h => by
    by_cases q : n = m + 1
    · subst q; exact Nat.le_refl _
    · have h1 := fc_mono (n := n) (m := m) (by omega)
      have h2 : 1 * fc m ≤ (m + 1) * fc m := Nat.mul_le_mul_right _ (by omega)
      rw [fc_s]; omega
theorem fc_20 : fc 20 = 2432902008176640000 := by decide +kernel
theorem fc_lt {n : Nat} (h : n ≤ 20) : fc n ≤ 2432902008176640000 := by have := fc_mono h; rw [fc_20] at this; exact this
theorem cb_mul : ∀ n k : Nat, (k + 1) * cb n (k + 1) + k * cb n k = n * cb n k
  | 0, 0 => by decide
  | 0, k + 1 => by rw [cb_out (n := 0) (k := k + 1) (by omega), cb_out (n := 0) (k := k + 1 + 1) (by omega)]; simp
  | n + 1, 0 => by
    have h := cb_mul n 0
    rw [cb_s, cb_0, cb_0] at *
    omega
  | n + 1, k + 1 => by
    have h1 := cb_mul n (k + 1)
    have h2 := cb_mul n k
    rw [cb_s n (k + 1), cb_s n k]
    simp only [Nat.mul_add, Nat.add_mul, Nat.one_mul] at *
    omega
def cbm (n k : Nat) : Nat := if k = 0 then 0 else cb n (k - 1)
theorem cbm_0 (n : Nat) : cbm n 0 = 0 := rfl
theorem cbm_s (n k : Nat) : cbm n (k + 1) = cb n k := rfl
theorem cb_mid (j : Nat) : cb (2 * j + 1) (j + 1) = cb (2 * j + 1) j := by
  have h := cb_mul (2 * j + 1) j
  have e : (2 * j + 1) * cb (2 * j + 1) j = (j + 1) * cb (2 * j + 1) j + j * cb (2 * j + 1) j := by rw [← Nat.add_mul]; congr 1; omega
  have h2 : (j + 1) * cb (2 * j + 1) (j + 1) = (j + 1) * cb (2 * j + 1) j := by omega
  exact Nat.eq_of_mul_eq_mul_left (by omega) h2
/-- Catalan numbers -/
def ct (n : Nat) : Nat := cb (2 * n) n - cbm (2 * n) n
theorem ct_div (n : Nat) : cb (2 * n) n / (n + 1) = ct n ∧ cbm (2 * n) n ≤ cb (2 * n) n := by
  cases n with
  | zero => exact ⟨by decide, by decide⟩
  | succ n =>
    have h := cb_mul (2 * (n + 1)) n
    have e : (2 * (n + 1)) * cb (2 * (n + 1)) n = (n + 2) * cb (2 * (n + 1)) n + n * cb (2 * (n + 1)) n := by rw [← Nat.add_mul]; congr 1; omega
    have h2 : (n + 1) * cb (2 * (n + 1)) (n + 1) = (n + 2) * cb (2 * (n + 1)) n := by omega
    have h3 : (n + 1) * cb (2 * (n + 1)) (n + 1) = (n + 1) * cb (2 * (n + 1)) n + cb (2 * (n + 1)) n := by rw [h2, show n + 2 = (n + 1) + 1 by omega, Nat.add_mul, Nat.one_mul]
    have h4 : cb (2 * (n + 1)) n ≤ cb (2 * (n + 1)) (n + 1) := by
      have : (n + 1) * cb (2 * (n + 1)) n ≤ (n + 1) * cb (2 * (n + 1)) (n + 1) := by omega
      exact Nat.le_of_mul_le_mul_left this (by omega)
    obtain ⟨d, hd⟩ : ∃ d, cb (2 * (n + 1)) (n + 1) = cb (2 * (n + 1)) n + d := ⟨_, (Nat.add_sub_cancel' h4).symm⟩
    have h5 : (n + 1) * d = cb (2 * (n + 1)) n := by
      rw [hd, Nat.mul_add] at h3; omega
    have h6 : cb (2 * (n + 1)) (n + 1) = d * (n + 1 + 1) := by rw [hd, ← h5, Nat.mul_comm, ← Nat.mul_succ]
    constructor
    · unfold ct
      rw [cbm_s, h6, Nat.mul_div_cancel _ (by omega), ← h6, hd]; omega
    · rw [cbm_s]; exact h4
theorem ct_lt {n : Nat} (h : n ≤ 30) : ct n ≤ 1152921504606846976 := by
  have := cb_lt (n := 2 * n) (k := n) (by omega)
  unfold ct; omega
/-- ballot numbers: how a word goes on with so many letters left and so many brackets open -/
def bl : Nat → Nat → Nat
  | 0, 0 => 1
  | 0, _ + 1 => 0
  | l + 1, 0 => bl l 1
  | l + 1, o + 1 => bl l (o + 2) + bl l o
theorem bl_out : ∀ {l o : Nat}, l < o → bl l o = 0
  | 0, o + 1, _ => rfl
  | l + 1, o + 1, h => by
    show bl l (o + 2) + bl l o = 0
    rw [bl_out (by omega), bl_out (by omega)]
theorem bl_cb : ∀ (l o j : Nat), l = o + 2 * j → bl l o + cbm l j = cb l j
  | 0, o, j, h => by
    obtain rfl : o = 0 := by omega
    obtain rfl : j = 0 := by omega
    rfl
  | l + 1, 0, j, h => by
    obtain ⟨i, rfl⟩ : ∃ i, j = i + 1 := ⟨j - 1, by omega⟩
    have ih := bl_cb l 1 i (by omega)
    show bl l 1 + cbm (l + 1) (i + 1) = cb (l + 1) (i + 1)
    rw [cbm_s, cb_s]
    have hm : cb l (i + 1) = cb l i := by
      obtain rfl : l = 2 * i + 1 := by omega
      exact cb_mid i
    cases i with
    | zero => have z := cb_0 l; have z2 := cb_0 (l + 1); rw [cbm_0] at ih; omega
    | succ i => rw [cbm_s] at ih; rw [cb_s l i]; omega
  | l + 1, o + 1, j, h => by
    have i2 := bl_cb l o j (by omega)
    show bl l (o + 2) + bl l o + cbm (l + 1) j = cb (l + 1) j
    cases j with
    | zero => rw [cbm_0] at *; rw [cb_0] at *; rw [bl_out (o := o + 2) (by omega)]; omega
    | succ i =>
      have i1 := bl_cb l (o + 2) i (by omega)
      rw [cbm_s] at i2
      rw [cbm_s, cb_s]
      cases i with
      | zero => have z := cb_0 l; have z2 := cb_0 (l + 1); rw [cbm_0] at i1; omega
      | succ i => rw [cbm_s] at i1; rw [cb_s l i]; omega
theorem bl_ct (n : Nat) : bl (2 * n) 0 = ct n := by
  have h := bl_cb (2 * n) 0 n (by omega)
  unfold ct; omega
theorem bl_lt {l o : Nat} (h : l ≤ 60) : bl l o ≤ 1152921504606846976 := by
  have key : ∀ l o : Nat, bl l o ≤ 2 ^ l := by
    intro l
    induction l with
    | zero => intro o; cases o <;> simp [bl]
    | succ l ih =>
      intro o
      cases o with
      | zero => have := ih 1; rw [Nat.pow_succ]; show bl l 1 ≤ _; omega
      | succ o => have h1 := ih (o + 2); have h2 := ih o; rw [Nat.pow_succ]; show bl l (o + 2) + bl l o ≤ _; omega
  have h1 := key l o
  have h2 : 2 ^ l ≤ 2 ^ 60 := Nat.pow_le_pow_right (by omega) h
  omega
/-- partitions of s with parts up to m -/
def pt (m s : Nat) : Nat := match m with
  | 0 => if s = 0 then 1 else 0
  | m + 1 => if s = 0 then 1 else pt m s + (if m + 1 ≤ s then pt (m + 1) (s - (m + 1)) else 0)
termination_by (m, s)
theorem pt_0 (s : Nat) : pt 0 s = if s = 0 then 1 else 0 := by rw [pt]
theorem pt_z (m : Nat) : pt m 0 = 1 := by cases m <;> simp [pt]
theorem pt_s (m s : Nat) (hs : s ≠ 0) : pt (m + 1) s = pt m s + (if m + 1 ≤ s then pt (m + 1) (s - (m + 1)) else 0) := by rw [pt, if_neg hs]
theorem pt_top : ∀ {m s : Nat}, s ≤ m → pt m s = pt s s := by
  intro m
  induction m with
  | zero => intro s h; obtain rfl : s = 0 := by omega
            rfl
  | succ m ih =>
    intro s h
    by_cases q : s = m + 1
    · subst q; rfl
    · by_cases q0 : s = 0
      · subst q0; rw [pt_z, pt_z]
      · rw [pt_s m s q0, if_neg (by omega), ih (by omega)]; omega
theorem pt_pos : ∀ {m s : Nat}, 0 < m → 0 < pt m s := by
  intro m
  induction m with
  | zero => intro s h; omega
  | succ m ih =>
    intro s _
    induction s using Nat.strongRecOn with
    | ind s is =>
      by_cases q0 : s = 0
      · subst q0; rw [pt_z]; omega
      · rw [pt_s m s q0]
        by_cases hm : m = 0
        · subst hm
          rw [if_pos (by omega)]
          have := is (s - (0 + 1)) (by omega)
          omega
        · have := ih (s := s) (by omega); omega
def TP (T : Nat → Int64) : Prop := ∀ m s : Nat, m ≤ 60 → s ≤ 60 → T (61 * m + s) = lN (pt m s)
def TL (T : Nat → Int64) : Prop := ∀ l o : Nat, l ≤ 40 → o ≤ 41 → T (42 * l + o) = lN (bl l o)
def TF (T : Nat → Int64) : Prop := ∀ n : Nat, n ≤ 20 → T n = lN (fc n)
def TK (T : Nat → Int64) : Prop := ∀ n : Nat, n ≤ 30 → T n = lN (ct n)
def TQ (T : Nat → Int32) : Prop := ∀ n g : Nat, g ≤ n → n ≤ 60 → T (tri n + g) = nI (pt g n)

-- the class's table of partitions
def TQr (n : Nat) (T : Nat → Int32) : Prop := (∀ a g : Nat, g ≤ a → a < n → T (tri a + g) = nI (pt g a)) ∧ ∀ i, tri n ≤ i → T i = 0
theorem q_ptri : ∃ B, fX2_partitionTriangle = some B ∧ TQ B := by
  unfold fX2_partitionTriangle
  rw [show (0 : Int32) = nI 0 from rfl, q_spot' (by omega), Option.bind_some, q_set (by decide) (by omega), Option.bind_some]
  obtain ⟨a', b', m, ⟨h1, h2⟩, h3⟩ := lpG2 fX2_partitionTriangle_L18 (fun n a T => a = nI n ∧ 1 ≤ n ∧ TQr n T) 61 (by
    rintro n a T hn ⟨rfl, n1, hT⟩
    obtain ⟨a', U, ⟨rfl, -, hU, hr, hz⟩, hq⟩ := lpK2 (fX2_partitionTriangle_L26 (nI n)) (fun k a U => a = nI k ∧ 1 ≤ k ∧ (∀ a g : Nat, g ≤ a → a < n → U (tri a + g) = nI (pt g a)) ∧ (∀ j, j < k → j ≤ n → U (tri n + j) = nI (pt j n)) ∧ ∀ j, tri n + k ≤ j → U j = 0) (n + 1) (by
      rintro k a U hk ⟨rfl, k1, hU, hr, hz⟩
      have hw : ∃ v, U (tri n + k) = 0 ∧ fX9_at 1891 U (nI (tri (n - k) + min (n - k) k)) = some (nI v) ∧ v = pt k (n - k) := by
        refine ⟨_, hz _ (Nat.le_refl _), ?_, rfl⟩
        rw [q_at (tri_60 (by omega) (by omega)) (by omega), hU (n - k) _ (by omega) (by omega)]
        by_cases q : n - k ≤ k
        · rw [Nat.min_eq_left q, pt_top q]
        · rw [Nat.min_eq_right (by omega)]
      obtain ⟨v, -, hv, hv2⟩ := hw
      have e1 : tri n + k < 1891 := tri_60 (by omega) (by omega)
      have e2 : tri n + (k - 1) < 1891 := tri_60 (by omega) (by omega)
      refine ⟨nI (k + 1), upd U (tri n + k) (U (tri n + (k - 1)) + nI v), ⟨rfl, by omega, ?_, ?_, ?_⟩, fun q g => ?_⟩
      · intro a g hg ha
        rw [upd_n (fun h => by have := tri_inj (a := a) (b := n) hg (by omega) h; omega)]
        exact hU a g hg ha
      · intro j hj hjn
        by_cases q : j = k
        · subst q
          rw [upd_s, hr (j - 1) (by omega) (by omega), hv2, q_add]
          obtain ⟨i, rfl⟩ : ∃ i, j = i + 1 := ⟨j - 1, by omega⟩
          rw [pt_s i n (by omega), if_pos (by omega)]; rfl
        · rw [upd_n (by omega)]; exact hr j (by omega) hjn
      · intro j hj
        rw [upd_n (by omega)]; exact hz j (by omega)
      · unfold fX2_partitionTriangle_L26
        have em : (if nI k < nI n - nI k then nI k else nI n - nI k) = nI (min (n - k) k) := by
          simp (disch := omega) only [q_sub, q_lt]
          by_cases q : k < n - k
          · rw [if_pos q, Nat.min_eq_right (by omega)]
          · rw [if_neg q, Nat.min_eq_left (by omega)]
        rw [em]
        simp (disch := omega) only [l1, q_lt, q_sub, q_spot', Option.bind_some, hv, q_at, q_set, q_add]
        rw [if_neg (by omega)]) n 1 (nI 1) T FU (by omega) (FU_gt (by omega)) (by
      refine ⟨rfl, by omega, hT.1, ?_, fun j hj => hT.2 j (by omega)⟩
      intro j hj hjn
      obtain rfl : j = 0 := by omega
      rw [hT.2 _ (by omega), pt_0, if_neg (by omega)]; rfl)
    refine ⟨nI (n + 1), U, ⟨rfl, by omega, ?_, ?_⟩, fun g => ?_⟩
    · intro a g hg ha
      by_cases q : a = n
      · subst q; exact hr g (by omega) hg
      · exact hU a g hg (by omega)
    · intro i hi
      have := tri_s n
      exact hz i (by omega)
    · obtain ⟨m, hm⟩ := hq g
      unfold fX2_partitionTriangle_L18
      simp (disch := omega) only [l1, l60, q_lt]
      rw [if_neg (by omega), hm]
      unfold fX2_partitionTriangle_L26
      simp (disch := omega) only [l1, q_lt, q_add]
      rw [if_pos (by omega)]) 60 1 (nI 1) (upd rk_z32 (tri 0 + 0) (1 : Int32)) FU (by omega) (FU_gt (by omega)) (by
    refine ⟨rfl, by omega, ?_, ?_⟩
    · intro a g hg ha
      obtain rfl : a = 0 := by omega
      obtain rfl : g = 0 := by omega
      rw [upd_s, pt_z]; rfl
    · intro i hi
      have : tri 1 = 1 := by decide
      have : tri 0 = 0 := by decide
      rw [upd_n (by omega)]; rfl)
  subst h1
  refine ⟨b', ?_, fun n g hg hn => h2.2.1 n g hg (by omega)⟩
  rw [show (1 : Int32) = nI 1 from rfl] at h3 ⊢
  rw [h3]
  unfold fX2_partitionTriangle_L18
  simp (disch := omega) only [l60, q_lt]
  rw [if_pos (by omega)]

-- the reference's tables
theorem fc_le20 {n : Nat} (h : n ≤ 20) : fc n < 9223372036854775808 := by have := fc_lt h; omega
theorem q_mfac (T : Nat → Int64) (hT : TCr 61 T) : ∃ Fc Ct, TF Fc ∧ TK Ct ∧ rk_it2 (fX10_init_L214 T) FU (nI 1) (vp_updL rk_z64 0 (1 : Int64)) = ((fX10_layParted rk_z64).bind fun r_280 => ((fX10_layClosed rk_z64).bind fun r_284 => some (T, Fc, Ct, r_280, r_284))) := by
  obtain ⟨a', Fc, m, ⟨rfl, hF⟩, h3⟩ := lpG2 (fX10_init_L214 T) (fun n a U => a = nI n ∧ 1 ≤ n ∧ ∀ j, j < n → U j = lN (fc j)) 21 (by
    rintro n a U hn ⟨rfl, n1, hU⟩
    refine ⟨nI (n + 1), vp_updL U n (lN n * lN (fc (n - 1))), ⟨rfl, by omega, ?_⟩, fun g => ?_⟩
    · intro j hj
      by_cases q : j = n
      · subst q
        obtain ⟨i, rfl⟩ : ∃ i, j = i + 1 := ⟨j - 1, by omega⟩
        rw [updL_s, Q_mul]; rfl
      · rw [updL_n (by omega)]; exact hU j (by omega)
    · unfold fX10_init_L214
      simp (disch := omega) only [l21, l1, l0, q_le, q_sub, q_lt, q_cl, q_i2l, q_add, hU]
      rw [if_neg (by omega), if_neg (by omega), if_neg (by omega)]) 20 1 (nI 1) (vp_updL rk_z64 0 (1 : Int64)) FU (by omega) (FU_gt (by omega)) ⟨rfl, by omega, fun j hj => by obtain rfl : j = 0 := by omega
                                                                                                                                                                               rfl⟩
  obtain ⟨a', Ct, m2, ⟨rfl, hC⟩, h4⟩ := lpG2 (fX10_init_L245 T Fc) (fun n a U => a = nI n ∧ ∀ j, j < n → U j = lN (ct j)) 31 (by
    rintro n a U hn ⟨rfl, hU⟩
    refine ⟨nI (n + 1), vp_updL U n (lN (cb (2 * n) n / (n + 1))), ⟨rfl, ?_⟩, fun g => ?_⟩
    · intro j hj
      by_cases q : j = n
      · subst q; rw [updL_s, (ct_div j).1]
      · rw [updL_n (by omega)]; exact hU j (by omega)
    · have e : 122 * n + n = 61 * (2 * n) + n := by omega
      have hb := cb_lt (n := 2 * n) (k := n) (by omega)
      unfold fX10_init_L245
      simp (disch := omega) only [l31, l1, l0, show (122 : Int32) = nI 122 from rfl, L0, q_le, q_mul, q_lt, q_cl, q_i2l, q_add, Q_eq, e, hT (2 * n) n (by omega) (by omega), Q_div]
      rw [if_neg (by omega), if_neg (by omega), if_neg (by omega), if_neg (by omega)]) 31 0 (nI 0) rk_z64 FU (by omega) (FU_gt (by omega)) ⟨rfl, fun j hj => by omega⟩
  refine ⟨Fc, Ct, fun n hn => hF.2 n (by omega), fun n hn => hC n (by omega), ?_⟩
  rw [h3]
  unfold fX10_init_L214
  simp (disch := omega) only [l21, q_le]
  rw [if_pos (by omega), show (0 : Int32) = nI 0 from rfl, h4]
  unfold fX10_init_L245
  simp (disch := omega) only [l31, q_le]
  rw [if_pos (by omega)]
