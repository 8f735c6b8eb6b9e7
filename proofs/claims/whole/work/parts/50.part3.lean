/-! ===== pure part 20: partitions, ranked ===== -/
def ps (s : Nat) : Nat → Nat
  | 0 => 0
  | l + 1 => ps s l + pt l (s - l)
theorem ps_s (s l : Nat) : ps s (l + 1) = ps s l + pt l (s - l) := rfl
theorem ps_pt {s : Nat} (hs : 1 ≤ s) : ∀ {l}, l ≤ s → ps s (l + 1) = pt l s
  | 0, _ => by rw [ps_s]; show 0 + pt 0 (s - 0) = pt 0 s; rw [Nat.sub_zero, Nat.zero_add]
  | l + 1, h => by rw [ps_s, ps_pt hs (by omega), pt_s l s (by omega), if_pos h]
def pl (n : Nat) (v : Nat → Nat) : Nat → Nat
  | 0 => 0
  | i + 1 => pl n v i + ps (n - su v i) (v i)
theorem pl_s (n : Nat) (v : Nat → Nat) (i : Nat) : pl n v (i + 1) = pl n v i + ps (n - su v i) (v i) := rfl
theorem su_mono {v : Nat → Nat} : ∀ {i j}, i ≤ j → su v i ≤ su v j
  | i, 0, h => by obtain rfl : i = 0 := by omega
                  omega
  | i, j + 1, h => by
    by_cases e : i = j + 1
    · subst e; omega
    · have := su_mono (v := v) (i := i) (j := j) (by omega)
      rw [su_s]; omega
theorem su_zero {g n : Nat} {v : Nat → Nat} (h : ∀ i, i < n → v i ≤ lst g v i) {i : Nat} (hz : v i = 0) : ∀ d, i + d < n → v (i + d) = 0 ∧ su v (i + d + 1) = su v i
  | 0, _ => ⟨hz, by rw [su_s]; show su v i + v i = su v i; omega⟩
  | d + 1, hd => by
    obtain ⟨h1, h2⟩ := su_zero h hz d (by omega)
    have h3 : v (i + d + 1) ≤ v (i + d) := h (i + d + 1) (by omega)
    have h4 : v (i + (d + 1)) = 0 := by show v (i + d + 1) = 0; omega
    refine ⟨h4, ?_⟩
    rw [su_s, h4]; show su v (i + d + 1) + 0 = _; omega
theorem su_pos {g n : Nat} {v : Nat → Nat} (h : ∀ i, i < n → v i ≤ lst g v i) (hs : su v n = n) {i : Nat} (hi : i < n) (hl : su v i < n) : 1 ≤ v i := by
  by_cases z : v i = 0
  · obtain ⟨-, h2⟩ := su_zero h z (n - 1 - i) (by omega)
    rw [show i + (n - 1 - i) + 1 = n by omega] at h2
    omega
  · omega
theorem pl_lt {g n : Nat} {v : Nat → Nat} (h : ∀ i, i < n → v i ≤ lst g v i) (hs : su v n = n) : ∀ i, i ≤ n → pl n v i + pt (lst g v i) (n - su v i) ≤ pt g n
  | 0, _ => by show 0 + pt g (n - 0) ≤ pt g n; rw [Nat.sub_zero]; omega
  | i + 1, hi => by
    have ih := pl_lt h hs i (by omega)
    have h1 := su_mono (v := v) (i := i + 1) (j := n) (by omega)
    rw [su_s, hs] at h1
    show pl n v i + ps (n - su v i) (v i) + pt (v i) (n - (su v i + v i)) ≤ pt g n
    by_cases z : su v i = n
    · have h2 : v i = 0 := by omega
      rw [z, Nat.sub_self, pt_z] at ih
      rw [h2, z, show n - (n + 0) = 0 by omega, pt_z]
      show pl n v i + 0 + 1 ≤ _
      omega
    · have h2 := su_pos h hs (i := i) (by omega) (by omega)
      obtain ⟨w, hw⟩ : ∃ w, v i = w + 1 := ⟨v i - 1, by omega⟩
      have h3 := h i (by omega)
      have h4 := pt_mono (s := n - su v i) h3
      rw [hw] at h1 h4 ⊢
      rw [pt_s w _ (by omega), if_pos (by omega)] at h4
      rw [ps_pt (by omega) (by omega), show n - (su v i + (w + 1)) = n - su v i - (w + 1) by omega]
      omega
theorem pl_stay {n : Nat} {v : Nat → Nat} (hs : su v n = n) {i : Nat} (hz : su v i = n) : ∀ d, i + d ≤ n → pl n v (i + d) = pl n v i
  | 0, _ => rfl
  | d + 1, h => by
    have ih := pl_stay hs hz d (by omega)
    have h1 := su_mono (v := v) (i := i) (j := i + d) (by omega)
    have h2 := su_mono (v := v) (i := i + d + 1) (j := n) (by omega)
    rw [su_s] at h2
    have h3 : v (i + d) = 0 := by omega
    show pl n v (i + d + 1) = _
    rw [pl_s, h3, ih]; rfl
theorem q_parts {Q : Nat → Int32} (hQ : TQ Q) {s k : Nat} (hs : s ≤ 60) (hk : k < 2147483648) : fX2_partitions Q (nI s) (nI k) = some (nI (pt k s)) := by
  unfold fX2_partitions
  have e : (if nI k < nI s then nI k else nI s) = nI (min k s) := by
    by_cases c : k < s
    · rw [if_pos (by rw [q_lt (by omega) (by omega)]; exact c), Nat.min_eq_left (by omega)]
    · rw [if_neg (by rw [q_lt (by omega) (by omega)]; exact c), Nat.min_eq_right (by omega)]
  have h1 : tri s + min k s < 1891 := tri_60 (by omega) hs
  rw [if_neg (nI_neg (by omega)), if_neg (by rw [l60, q_lt (by omega) (by omega)]; omega), if_pos (by rw [l0, q_le (by omega) (by omega)]; omega), e, q_spot' hs, Option.bind_some, q_at h1 (by omega), Option.bind_some, hQ _ _ (by omega) hs]
  by_cases c : k ≤ s
  · rw [Nat.min_eq_left c]
  · rw [Nat.min_eq_right (by omega), pt_top (m := k) (by omega)]
theorem rank4 {g n : Nat} (hg : g ≤ 60) (hn : n ≤ 60) {Q : Nat → Int32} {P : Nat → Int64} (hQ : TQ Q) (hP : TP P) {b L Z of : Nat → Int32} {R : Nat → Int64} (hb : AccT g n b) (h0 : of 0 = nI n) : ∃ r, r < pt g n ∧ fX4_placeOf (nI n) b L R Z Q = some (lN r, L, R, Z) ∧ fX10_partitionRank b of P = some (lN r) := by
  obtain ⟨hv, hs⟩ := hb
  have hv2 : ∀ i, i < n → (fun i => (b i).toNatClampNeg) i ≤ lst g (fun i => (b i).toNatClampNeg) i := fun i hi => (hv i hi).2
  refine ⟨pl n (fun i => (b i).toNatClampNeg) n, ?_, ?_, ?_⟩
  · have := pl_lt hv2 hs n (Nat.le_refl n)
    rw [hs, Nat.sub_self, pt_z] at this
    omega
  · have key : ∀ d i f, i + d = n → d < f → rk_it3 (fX4_placeOf_L11 (nI n) b L R Z Q) f (lN (pl n (fun i => (b i).toNatClampNeg) i)) (nI (n - su (fun i => (b i).toNatClampNeg) i)) (nI i) = some (lN (pl n (fun i => (b i).toNatClampNeg) n), L, R, Z) := by
      intro d
      induction d with
      | zero =>
        intro i f hi hf
        obtain ⟨f, rfl, -⟩ := suc_of hf
        obtain rfl : i = n := by omega
        rw [it3_s]; unfold fX4_placeOf_L11
        rw [if_pos (by rw [q_le (by omega) (by omega)]; omega)]
      | succ d ih =>
        intro i f hi hf
        obtain ⟨f, rfl, hf⟩ := suc_of hf
        have h1 := su_mono (v := fun i => (b i).toNatClampNeg) (i := i + 1) (j := n) (by omega)
        rw [su_s, hs] at h1
        have h1' : su (fun i => (b i).toNatClampNeg) i + (b i).toNatClampNeg ≤ n := h1
        have ih := ih (i + 1) f (by omega) (by omega)
        rw [it3_s]
        generalize rk_it3 (fX4_placeOf_L11 (nI n) b L R Z Q) f = gx at ih ⊢
        unfold fX4_placeOf_L11
        rw [if_neg (by rw [q_le (by omega) (by omega)]; omega)]
        by_cases z : su (fun i => (b i).toNatClampNeg) i = n
        · rw [z, if_pos (by rw [l0, q_le (by omega) (by omega)]; omega), ← pl_stay hs z (d + 1) (by omega), show i + (d + 1) = n from hi]
        · have h2 : 1 ≤ (b i).toNatClampNeg := su_pos hv2 hs (i := i) (by omega) (by omega)
          have h3 := pt_lt (m := (b i).toNatClampNeg - 1) (s := n - su (fun i => (b i).toNatClampNeg) i) (by omega)
          have e1 : b i - 1 = nI ((b i).toNatClampNeg - 1) := by rw [congrArg (fun q => q - (1 : Int32)) (hv i (by omega)).1, l1, q_sub h2]
          have e2 : nI (n - su (fun i => (b i).toNatClampNeg) i) - b i = nI (n - su (fun i => (b i).toNatClampNeg) (i + 1)) := by
            rw [congrArg (fun q => nI (n - su (fun i => (b i).toNatClampNeg) i) - q) (hv i (by omega)).1, q_sub (by omega), Nat.sub_sub]; rfl
          have e3 : ps (n - su (fun i => (b i).toNatClampNeg) i) ((b i).toNatClampNeg) = pt ((b i).toNatClampNeg - 1) (n - su (fun i => (b i).toNatClampNeg) i) := by
            rw [← ps_pt (by omega) (by omega), show (b i).toNatClampNeg - 1 + 1 = (b i).toNatClampNeg by omega]
          rw [if_neg (by rw [l0, q_le (by omega) (by omega)]; omega), q_at (by omega) (by omega), Option.bind_some, e1, q_parts hQ (by omega) (by omega), Option.bind_some, q_i2l h3, e2, Q_add, l1, q_add, ← e3]
          exact ih
    unfold fX4_placeOf
    have := key n 0 FU (by omega) (FU_gt (by omega))
    exact this
  · unfold fX10_partitionRank
    obtain ⟨x, y, z, m, ⟨rfl, rfl, rfl⟩, h⟩ := lpG3 (fX10_partitionRank_L12 b of P) (fun i x y z => x = lN (pl n (fun i => (b i).toNatClampNeg) i) ∧ y = nI (n - su (fun i => (b i).toNatClampNeg) i) ∧ z = nI i) n (by
      rintro i x y z hi ⟨rfl, rfl, rfl⟩
      have h1 := su_mono (v := fun i => (b i).toNatClampNeg) (i := i + 1) (j := n) (by omega)
      rw [su_s, hs] at h1
      have h1' : su (fun i => (b i).toNatClampNeg) i + (b i).toNatClampNeg ≤ n := h1
      have g1 : ¬ (nI i < 0 ∨ 60 ≤ i) := by rw [l0, q_lt (by omega) (by omega)]; omega
      obtain ⟨v1, -⟩ := hv i hi
      refine ⟨_, _, _, ⟨rfl, rfl, rfl⟩, fun g => ?_⟩
      obtain ⟨x, y, ⟨rfl, rfl⟩, h⟩ := lpK2 (fun q => fX10_partitionRank_L26 b P (nI (n - su (fun i => (b i).toNatClampNeg) i)) (nI i) q) (fun l x y => x = lN (pl n (fun i => (b i).toNatClampNeg) i + ps (n - su (fun i => (b i).toNatClampNeg) i) l) ∧ y = nI l) ((b i).toNatClampNeg) (by
        rintro l x y hl ⟨rfl, rfl⟩
        refine ⟨_, _, ⟨rfl, rfl⟩, fun q g => ?_⟩
        have g2 : ¬ (nI (61 * l + (n - su (fun i => (b i).toNatClampNeg) i) - l) < 0 ∨ 3721 ≤ 61 * l + (n - su (fun i => (b i).toNatClampNeg) i) - l) := by rw [l0, q_lt (by omega) (by omega)]; omega
        have c1 : ¬ b i ≤ nI l := by rw [v1, q_le (by omega) (by omega)]; omega
        unfold fX10_partitionRank_L26
        rw [q_cl (by omega), if_neg g1, if_neg c1, l61, q_mul, q_add, q_sub (by omega), q_cl (by omega), if_neg g2, show 61 * l + (n - su (fun i => (b i).toNatClampNeg) i) - l = 61 * l + (n - su (fun i => (b i).toNatClampNeg) i - l) by omega, hP _ _ (by omega) (by omega), l1, q_add, Q_add, ps_s, Nat.add_assoc]) ((b i).toNatClampNeg) 0 (lN (pl n (fun i => (b i).toNatClampNeg) i)) (nI 0) FU (by omega) (FU_gt (by omega)) ⟨rfl, rfl⟩
      obtain ⟨m, h⟩ := h g
      unfold fX10_partitionRank_L12
      rw [h0, if_neg (by rw [q_le (by omega) (by omega)]; omega), l0, h]
      unfold fX10_partitionRank_L26
      have c1 : b i ≤ nI (b i).toNatClampNeg := by rw [← v1]; exact Int32.le_refl _
      have e2 : nI (n - su (fun i => (b i).toNatClampNeg) i) - b i = nI (n - su (fun i => (b i).toNatClampNeg) (i + 1)) := by
        rw [congrArg (fun q => nI (n - su (fun i => (b i).toNatClampNeg) i) - q) v1, q_sub (by omega), Nat.sub_sub]; rfl
      rw [q_cl (by omega), if_neg g1, if_pos c1, e2, l1, q_add, pl_s]) n 0 (lN 0) (nI n) (nI 0) FU (by omega) (FU_gt (by omega)) ⟨rfl, rfl, rfl⟩
    rw [h0, l0, L0, h]
    unfold fX10_partitionRank_L12
    rw [if_pos (by rw [h0, q_le (by omega) (by omega)]; omega)]
