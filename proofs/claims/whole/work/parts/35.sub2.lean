/-! ===== pure part 5: subsets, ranks ===== -/
theorem cb_step {n k : Nat} (hn : 0 < n) (hk : 0 < k) : cb n k = cb (n - 1) (k - 1) + cb (n - 1) k := by
  obtain ⟨n, rfl⟩ : ∃ m, n = m + 1 := ⟨n - 1, by omega⟩
  obtain ⟨k, rfl⟩ : ∃ m, k = m + 1 := ⟨k - 1, by omega⟩
  rfl
theorem cb_mono : ∀ {n m k : Nat}, n ≤ m → cb n k ≤ cb m k
  | n, 0, k, h => by obtain rfl : n = 0 := by omega
                     exact Nat.le_refl _
  | n, m + 1, 0, h => by rw [cb_0, cb_0]; omega
  | n, m + 1, k + 1, h => by
    by_cases q : n = m + 1
    · subst q; exact Nat.le_refl _
    · have := cb_mono (n := n) (m := m) (k := k + 1) (by omega)
      rw [cb_s]; omega
/-- the lexicographic place from element n - d on, nx elements behind us -/
def lexS (n k : Nat) (v : Nat → Nat) : Nat → Nat → Nat
  | 0, _ => 0
  | d + 1, nx => if k ≤ nx then 0 else if v nx = n - (d + 1) then lexS n k v d (nx + 1) else cb d (k - 1 - nx) + lexS n k v d nx
theorem lexS_k {n k : Nat} {v : Nat → Nat} {d nx : Nat} (h : k ≤ nx) : lexS n k v d nx = 0 := by
  cases d with
  | zero => rfl
  | succ d => unfold lexS; rw [if_pos h]
theorem lexS_lt {n k : Nat} {v : Nat → Nat} (hv : ∀ i, i < k → v i < n) (hm : ∀ i j, j < i → i < k → v j < v i) : ∀ d nx, nx ≤ k → d ≤ n → (nx < k → n - d ≤ v nx) → lexS n k v d nx < cb d (k - nx) := by
  intro d
  induction d with
  | zero =>
    intro nx h1 h2 h3
    by_cases q : nx = k
    · subst q; rw [Nat.sub_self, cb_0]; exact Nat.one_pos
    · have := h3 (by omega); have := hv nx (by omega); omega
  | succ d ih =>
    intro nx h1 h2 h3
    by_cases q : nx = k
    · subst q; rw [lexS_k (Nat.le_refl _), Nat.sub_self, cb_0]; exact Nat.one_pos
    · have hs : cb (d + 1) (k - nx) = cb d (k - 1 - nx) + cb d (k - nx) := by
        obtain ⟨t, ht⟩ : ∃ t, k - nx = t + 1 := ⟨k - nx - 1, by omega⟩
        rw [ht, cb_s, show k - 1 - nx = t by omega]
      unfold lexS
      rw [if_neg (by omega)]
      have h4 := h3 (by omega)
      by_cases c : v nx = n - (d + 1)
      · rw [if_pos c]
        have := ih (nx + 1) (by omega) (by omega) (fun h => by have := hm (nx + 1) nx (by omega) h; omega)
        rw [show k - (nx + 1) = k - 1 - nx by omega] at this
        omega
      · rw [if_neg c]
        have := ih nx (by omega) (by omega) (fun _ => by omega)
        omega
theorem x_lexS {n k : Nat} (hk : k ≤ n) (hn : n ≤ 60) {B : Nat → Int64} (hB : TB B) {b : Nat → Int32} {v : Nat → Nat} (hb : ∀ i, i < k → b i = nI (v i)) (hv : ∀ i, i < k → v i < n) : fX6_lexicographicPlace (nI k) (nI n) b B = some (lN (lexS n k v n 0)) := by
  have key : ∀ d nx a f, d ≤ n → nx ≤ k → d < f → k - nx ≤ d ∨ True → rk_it3 (fX6_lexicographicPlace_L8 (nI k) (nI n) b B) f (lN a) (nI nx) (nI (n - d)) = some (lN (a + lexS n k v d nx)) := by
    intro d
    induction d with
    | zero =>
      intro nx a f hd hx hf _
      obtain ⟨f, rfl, -⟩ := suc_of hf
      rw [it3_s]; unfold fX6_lexicographicPlace_L8
      rw [if_pos (by rw [q_le (by omega) (by omega)]; omega)]; rfl
    | succ d ih =>
      intro nx a f hd hx hf _
      obtain ⟨f, rfl, hf⟩ := suc_of hf
      have e : ∀ g : Int64 → Int32 → Int32 → Option Int64, fX6_lexicographicPlace_L8 (nI k) (nI n) b B g (lN a) (nI nx) (nI (n - (d + 1))) = if k ≤ nx then some (lN a) else if v nx = n - (d + 1) then g (lN a) (nI (nx + 1)) (nI (n - d)) else g (lN (a + cb d (k - 1 - nx))) (nI nx) (nI (n - d)) := by
        intro g
        unfold fX6_lexicographicPlace_L8
        rw [if_neg (by rw [q_le (by omega) (by omega)]; omega)]
        by_cases c : k ≤ nx
        · rw [if_pos (by rw [q_le (by omega) (by omega)]; exact c), if_pos c]
        · have hvn := hv nx (by omega)
          rw [if_neg (by rw [q_le (by omega) (by omega)]; exact c), if_neg c, q_at (by omega) (by omega), Option.bind_some, hb nx (by omega)]
          unfold fX6_lexicographicPlace_B68
          by_cases c2 : v nx = n - (d + 1)
          · rw [if_neg (by rw [q_eq (by omega) (by omega)]; simp [c2]), if_pos c2, l1, q_add, q_add, show n - (d + 1) + 1 = n - d by omega]
          · rw [if_pos (by rw [q_eq (by omega) (by omega)]; exact c2), if_neg c2, l1, q_sub (by omega), q_sub (by omega), q_sub (by omega), q_sub (by omega), q_bin hB (by omega) (by omega), Option.bind_some, Q_add, q_add, show n - (d + 1) + 1 = n - d by omega, show n - 1 - (n - (d + 1)) = d by omega]
      rw [it3_s, e]
      unfold lexS
      by_cases c : k ≤ nx
      · rw [if_pos c, if_pos c]; rfl
      · rw [if_neg c, if_neg c]
        by_cases c2 : v nx = n - (d + 1)
        · rw [if_pos c2, if_pos c2]; exact ih (nx + 1) a f (by omega) (by omega) (by omega) (Or.inr trivial)
        · rw [if_neg c2, if_neg c2, ih nx _ f (by omega) hx (by omega) (Or.inr trivial), Nat.add_assoc]
  have h := key n 0 0 FU (Nat.le_refl _) (by omega) (FU_gt (by omega)) (Or.inr trivial)
  rw [Nat.sub_self, Nat.zero_add] at h
  exact h
theorem m_lexS {n k : Nat} (hk : k ≤ n) (hn : n ≤ 60) {T : Nat → Int64} (hT : TC T) {b : Nat → Int32} {v : Nat → Nat} (hb : ∀ i, i < k → b i = nI (v i)) (hv : ∀ i, i < k → v i < n) (hm : ∀ i j, j < i → i < k → v j < v i) {of : Nat → Int32} (h0 : of 0 = nI n) (h1 : of 1 = nI k) (h2 : of 2 = nI 0) : fX10_subsetRank b T of = some (lN (lexS n k v n 0)) := by
  have inner : ∀ (g : Int64 → Int32 → Int32 → Option Int64) d i x a f, v i = x + d → i < k → d < f → rk_it2 (fX10_subsetRank_L50 b T of (nI i) g) f (lN a) (nI x) = g (lN (a + (lexS n k v (n - x) i - lexS n k v (n - v i - 1) (i + 1)))) (nI (v i + 1)) (nI (i + 1)) ∧ lexS n k v (n - v i - 1) (i + 1) ≤ lexS n k v (n - x) i := by
    intro g d
    induction d with
    | zero =>
      intro i x a f hx hi hf
      obtain ⟨f, rfl, -⟩ := suc_of hf
      have hvi := hv i hi
      obtain ⟨t, ht⟩ : ∃ t, n - x = t + 1 := ⟨n - x - 1, by omega⟩
      have e : lexS n k v (n - x) i = lexS n k v (n - v i - 1) (i + 1) := by
        rw [ht]
        show (if k ≤ i then 0 else if v i = n - (t + 1) then lexS n k v t (i + 1) else _) = _
        rw [if_neg (by omega), if_pos (by omega), show n - v i - 1 = t by omega]
      constructor
      · rw [it2_s]; unfold fX10_subsetRank_L50 fX10_subsetRank_B133
        rw [q_cl (by omega), hb i hi, if_pos (by rw [q_le (by omega) (by omega)]; omega), e, Nat.sub_self, l1, q_add, q_add]; rfl
      · rw [e]; exact Nat.le_refl _
    | succ d ih =>
      intro i x a f hx hi hf
      obtain ⟨f, rfl, hf⟩ := suc_of hf
      have hvi := hv i hi
      obtain ⟨t, ht⟩ : ∃ t, n - x = t + 1 := ⟨n - x - 1, by omega⟩
      have e : lexS n k v (n - x) i = cb t (k - 1 - i) + lexS n k v (n - (x + 1)) i := by
        rw [ht]
        show (if k ≤ i then 0 else if v i = n - (t + 1) then _ else cb t (k - 1 - i) + lexS n k v t i) = _
        rw [if_neg (by omega), if_neg (by omega), show n - (x + 1) = t by omega]
      have st : fX10_subsetRank_L50 b T of (nI i) g (rk_it2 (fX10_subsetRank_L50 b T of (nI i) g) f) (lN a) (nI x) = rk_it2 (fX10_subsetRank_L50 b T of (nI i) g) f (lN (a + cb t (k - 1 - i))) (nI (x + 1)) := by
        generalize rk_it2 (fX10_subsetRank_L50 b T of (nI i) g) f = w
        unfold fX10_subsetRank_L50
        rw [q_cl (by omega), hb i hi, if_neg (by rw [q_le (by omega) (by omega)]; omega), h0, h1, l1, q_sub (by omega), q_sub (by omega), q_sub (by omega), q_sub (by omega), q_cho hT (by omega) (by omega), Option.bind_some, Q_add, q_add, show n - 1 - x = t by omega]
      obtain ⟨g1, g2⟩ := ih i (x + 1) (a + cb t (k - 1 - i)) f (by omega) hi (by omega)
      constructor
      · rw [it2_s, st, g1, e]; congr 2; omega
      · rw [e]; omega
  have outer : ∀ d i x a f, i + d = k → d < f → (i < k → x ≤ v i) → x ≤ n → rk_it3 (fX10_subsetRank_L22 b T of) f (lN a) (nI x) (nI i) = some (lN (a + lexS n k v (n - x) i)) := by
    intro d
    induction d with
    | zero =>
      intro i x a f hi hf hx hxn
      obtain ⟨f, rfl, -⟩ := suc_of hf
      rw [it3_s]; unfold fX10_subsetRank_L22
      rw [h1, if_pos (by rw [q_le (by omega) (by omega)]; omega), lexS_k (by omega)]; rfl
    | succ d ih =>
      intro i x a f hi hf hx hxn
      obtain ⟨f, rfl, hf⟩ := suc_of hf
      have hvi := hv i (by omega)
      have hxi := hx (by omega)
      obtain ⟨g1, g2⟩ := inner (rk_it3 (fX10_subsetRank_L22 b T of) f) (v i - x) i x a FU (by omega) (by omega) (FU_gt (by omega))
      have st : fX10_subsetRank_L22 b T of (rk_it3 (fX10_subsetRank_L22 b T of) f) (lN a) (nI x) (nI i) = rk_it2 (fX10_subsetRank_L50 b T of (nI i) (rk_it3 (fX10_subsetRank_L22 b T of) f)) FU (lN a) (nI x) := by
        generalize rk_it3 (fX10_subsetRank_L22 b T of) f = w
        unfold fX10_subsetRank_L22
        rw [h1, if_neg (by rw [q_le (by omega) (by omega)]; omega), q_cl (by omega), if_neg (by rw [l0, q_lt (by omega) (by omega)]; omega), h2, if_neg (by simp [nI_0])]
      rw [it3_s, st, g1, ih (i + 1) (v i + 1) _ f (by omega) (by omega) (fun h => hm (i + 1) i (by omega) h) (by omega)]
      congr 2
      rw [show n - (v i + 1) = n - v i - 1 by omega]
      omega
  have h := outer k 0 0 0 FU (by omega) (FU_gt (by omega)) (fun _ => Nat.zero_le _) (Nat.zero_le _)
  rw [Nat.sub_zero, Nat.zero_add] at h
  exact h
/-- the other two orders -/
def colR (o : Nat) (v : Nat → Nat) : Nat → Nat
  | 0 => 0
  | i + 1 => if o = 2 then cb (v i + 1) (i + 1) - 1 - colR o v i else colR o v i + cb (v i) (i + 1)
theorem colR_s (o : Nat) (v : Nat → Nat) (i : Nat) : colR o v (i + 1) = if o = 2 then cb (v i + 1) (i + 1) - 1 - colR o v i else colR o v i + cb (v i) (i + 1) := rfl
theorem colR_lt {o k n : Nat} {v : Nat → Nat} (hm : ∀ i j, j < i → i < k → v j < v i) : ∀ i, i ≤ k → ∀ w, (∀ j, j < i → v j < w) → colR o v i < cb w i := by
  intro i
  induction i with
  | zero => intro _ w _; rw [cb_0]; exact Nat.one_pos
  | succ i ih =>
    intro hi w hw
    have h1 := ih (by omega) (v i) (fun j hj => hm i j hj (by omega))
    have h2 := cb_mono (n := v i + 1) (m := w) (k := i + 1) (hw i (by omega))
    have h3 := cb_s (v i) i
    rw [colR_s]
    by_cases c : o = 2
    · rw [if_pos c]; omega
    · rw [if_neg c]; omega
theorem x_colR {n k o : Nat} (hk : k ≤ n) (hn : n ≤ 60) (ho : o ≠ 0) (ho2 : o ≤ 2) {B : Nat → Int64} (hB : TB B) {b L Z : Nat → Int32} {R : Nat → Int64} {v : Nat → Nat} (hb : ∀ i, i < k → b i = nI (v i)) (hv : ∀ i, i < k → v i < n) (hm : ∀ i j, j < i → i < k → v j < v i) : rk_it2 (fX6_placeOf_L19 (nI k) (nI o) b L R Z B) FU (lN 0) (nI 0) = some (lN (colR o v k), L, R, Z) := by
  obtain ⟨a', c', m, ⟨rfl, rfl⟩, h3⟩ := lpG2 (fX6_placeOf_L19 (nI k) (nI o) b L R Z B) (fun i a c => a = lN (colR o v i) ∧ c = nI i) k (by
    rintro i a c hi ⟨rfl, rfl⟩
    have hvi := hv i hi
    have h1 := colR_lt (o := o) (n := n) hm i (by omega) (v i) (fun j hj => hm i j hj hi)
    have h2 := cb_s (v i) i
    refine ⟨lN (colR o v (i + 1)), nI (i + 1), ⟨rfl, rfl⟩, fun g => ?_⟩
    unfold fX6_placeOf_L19 fX6_placeOf_B77
    rw [if_neg (by rw [q_le (by omega) (by omega)]; omega), q_at (by omega) (by omega), Option.bind_some, hb i hi, l1, l2, q_add, q_add]
    rw [colR_s]
    by_cases c : o = 2
    · rw [if_neg (by rw [q_eq (by omega) (by omega)]; simp [c]), q_bin hB (by omega) (by omega), Option.bind_some, L1, Q_sub (by omega), Q_sub (by omega), if_pos c]
    · rw [if_pos (by rw [q_eq (by omega) (by omega)]; exact c), q_bin hB (by omega) (by omega), Option.bind_some, Q_add, if_neg c]) k 0 (lN 0) (nI 0) FU (by omega) (FU_gt (by omega)) ⟨rfl, rfl⟩
  rw [h3]
  unfold fX6_placeOf_L19
  rw [if_pos (by rw [q_le (by omega) (by omega)]; omega)]
theorem m_colR {n k o : Nat} (hk : k ≤ n) (hn : n ≤ 60) (ho : o ≠ 0) (ho2 : o ≤ 2) {T : Nat → Int64} (hT : TC T) {b : Nat → Int32} {v : Nat → Nat} (hb : ∀ i, i < k → b i = nI (v i)) (hv : ∀ i, i < k → v i < n) (hm : ∀ i j, j < i → i < k → v j < v i) {of : Nat → Int32} (h1 : of 1 = nI k) (h2 : of 2 = nI o) : fX10_subsetRank b T of = some (lN (colR o v k)) := by
  unfold fX10_subsetRank
  obtain ⟨a', c', e', m, ⟨rfl, rfl⟩, h3⟩ := lpG3 (fX10_subsetRank_L22 b T of) (fun i a c e => a = lN (colR o v i) ∧ e = nI i) k (by
    rintro i a c e hi ⟨rfl, rfl⟩
    have hvi := hv i hi
    have h1' := colR_lt (o := o) (n := n) hm i (by omega) (v i) (fun j hj => hm i j hj hi)
    have h2' := cb_s (v i) i
    refine ⟨lN (colR o v (i + 1)), c, nI (i + 1), ⟨rfl, rfl⟩, fun g => ?_⟩
    unfold fX10_subsetRank_L22 fX10_subsetRank_B132 fX10_subsetRank_B133
    rw [h1, if_neg (by rw [q_le (by omega) (by omega)]; omega), q_cl (by omega), if_neg (by rw [l0, q_lt (by omega) (by omega)]; omega), h2, hb i hi, l0, l1, if_pos (by rw [q_eq (by omega) (by omega)]; exact ho), q_add, q_add]
    rw [colR_s]
    by_cases c : o = 2
    · rw [if_pos (by rw [q_eq (by omega) (by omega)]; omega), q_cho hT (by omega) (by omega), Option.bind_some, L1, Q_sub (by omega), Q_sub (by omega), if_pos c]
    · rw [if_neg (by rw [q_eq (by omega) (by omega)]; omega), q_cho hT (by omega) (by omega), Option.bind_some, Q_add, if_neg c]) k 0 (lN 0) (nI 0) (nI 0) FU (by omega) (FU_gt (by omega)) ⟨rfl, rfl⟩
  rw [show (0 : Int64) = lN 0 from rfl, show (0 : Int32) = nI 0 from rfl, h3]
  unfold fX10_subsetRank_L22
  rw [h1, if_pos (by rw [q_le (by omega) (by omega)]; omega)]
/-- ranks of subsets -/
theorem rank0 {n k o : Nat} (hk : k ≤ n) (hn : n ≤ 60) (ho : o ≤ 2) {B T : Nat → Int64} (hB : TB B) (hT : TC T) {b L Z of : Nat → Int32} {R : Nat → Int64} (hb : AccS n k b) (h0 : of 0 = nI n) (h1 : of 1 = nI k) (h2 : of 2 = nI o) : ∃ r : Nat, r < cb n k ∧ fX6_placeOf (nI k) (nI n) (nI o) b L R Z B = some (lN r, L, R, Z) ∧ fX10_subsetRank b T of = some (lN r) := by
  have hb' : ∀ i, i < k → b i = nI (b i).toNatClampNeg := fun i hi => (hb i hi).1
  have hv : ∀ i, i < k → (b i).toNatClampNeg < n := fun i hi => (hb i hi).2.1
  have hm : ∀ i j, j < i → i < k → (b j).toNatClampNeg < (b i).toNatClampNeg := fun i j hj hi => (hb i hi).2.2 j hj
  by_cases c : o = 0
  · subst c
    refine ⟨lexS n k (fun i => (b i).toNatClampNeg) n 0, ?_, ?_, m_lexS hk hn hT hb' hv hm h0 h1 h2⟩
    · have := lexS_lt (n := n) (k := k) hv hm n 0 (Nat.zero_le _) (Nat.le_refl _) (fun _ => by omega)
      rwa [Nat.sub_zero] at this
    · unfold fX6_placeOf
      rw [if_neg (by simp [nI_0]), x_lexS hk hn hB hb' hv]; rfl
  · refine ⟨colR o (fun i => (b i).toNatClampNeg) k, colR_lt (n := n) hm k (Nat.le_refl _) n hv, ?_, m_colR hk hn c ho hT hb' hv hm h1 h2⟩
    unfold fX6_placeOf
    rw [if_pos (by rw [l0, q_eq (by omega) (by omega)]; exact c)]
    exact x_colR hk hn c ho hB hb' hv hm
