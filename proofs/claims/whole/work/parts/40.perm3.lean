/-! ===== pure part 10: permutations by plain changes ===== -/
theorem Q_and1 (a : Nat) : lN a &&& (1 : Int64) = lN (a % 2) := by
  apply Int64.toBitVec_inj.mp
  rw [Int64.toBitVec_and]
  apply BitVec.eq_of_toNat_eq
  rw [BitVec.toNat_and]
  show a % 18446744073709551616 &&& 1 = a % 2 % 18446744073709551616
  rw [Nat.and_one_is_mod]; omega
def tn (p m t : Nat) : Nat := if p % 2 = 0 then m - t else t
theorem tn_le {p m t : Nat} (h : t ≤ m) : tn p m t ≤ m := by
  unfold tn
  by_cases c : p % 2 = 0
  · rw [if_pos c]; omega
  · rw [if_neg c]; exact h
theorem q_turn {p m t : Nat} (h : t ≤ m) : fX5_plainTurn (lN p) (nI m) (nI t) = some (nI (tn p m t)) := by
  unfold fX5_plainTurn tn
  rw [Q_and1]
  by_cases c : p % 2 = 0
  · rw [if_pos c, if_neg (by rw [L0, Q_eq (by omega) (by omega)]; omega), q_sub h]
  · rw [if_neg c, if_pos (by rw [L0, Q_eq (by omega) (by omega)]; omega)]
/-- how many of the lesser ones are before each number -/
def Tur (n : Nat) (v t : Nat → Nat) : Prop := ∀ m, m < n → t m ≤ m ∧ ∃ p, p < n ∧ v p = m ∧ (∀ j, j < p → v j ≠ m) ∧ cu v m p = t m
theorem tur_of {n : Nat} {v : Nat → Nat} (hv : Inj n v) (hb : ∀ j, j < n → v j < n) : ∃ t, Tur n v t := by
  have h : ∀ m : Nat, ∃ t, m < n → t ≤ m ∧ ∃ p, p < n ∧ v p = m ∧ (∀ j, j < p → v j ≠ m) ∧ cu v m p = t := by
    intro m
    by_cases hm : m < n
    · obtain ⟨p, h1, h2⟩ := surj hv hb hm
      exact ⟨cu v m p, fun _ => ⟨cu_le' hv (by omega) m, p, h1, h2, fun j hj => by rw [← h2]; exact hv p j hj h1, rfl⟩⟩
    · exact ⟨0, fun h => absurd h hm⟩
  exact ⟨fun m => Classical.choose (h m), fun m hm => Classical.choose_spec (h m) hm⟩
theorem x_lessB {n : Nat} (hn : n ≤ 20) {b : Nat → Int32} {v : Nat → Nat} (hb : ∀ i, i < n → b i = nI (v i) ∧ v i < n) {m p : Nat} (hp : p < n) (h1 : v p = m) (h2 : ∀ j, j < p → v j ≠ m) : fX5_lessBefore (nI n) b (nI m) = some (nI (cu v m p)) := by
  have hm : m < n := by rw [← h1]; exact (hb p hp).2
  unfold fX5_lessBefore
  obtain ⟨a, c, q, ⟨rfl, rfl⟩, h⟩ := lpG2 (fX5_lessBefore_L5 (nI n) b (nI m)) (fun i a c => a = nI (cu v m i) ∧ c = nI i) p (by
    rintro i a c hi ⟨rfl, rfl⟩
    refine ⟨_, _, ⟨rfl, rfl⟩, fun g => ?_⟩
    unfold fX5_lessBefore_L5 fX5_lessBefore_B37
    obtain ⟨e1, e2⟩ := hb i (by omega)
    have e3 := h2 i hi
    rw [if_neg (by rw [q_le (by omega) (by omega)]; omega), q_at (by omega) (by omega), Option.bind_some, e1, if_neg (by rw [q_eq (by omega) (by omega)]; omega), Option.bind_some, cu_s]
    by_cases c : m ≤ v i
    · rw [if_pos (by rw [q_le (by omega) (by omega)]; exact c), if_neg (by omega), l1, q_add]; rfl
    · rw [if_neg (by rw [q_le (by omega) (by omega)]; exact c), if_pos (by omega), l1, q_add, q_add]) p 0 (nI 0) (nI 0) FU (by omega) (FU_gt (by omega)) ⟨rfl, rfl⟩
  rw [l0, h]
  unfold fX5_lessBefore_L5
  rw [if_neg (by rw [q_le (by omega) (by omega)]; omega), q_at (by omega) (by omega), Option.bind_some, (hb p hp).1, h1, if_pos rfl]
theorem m_among {n : Nat} (hn : n ≤ 20) {b : Nat → Int32} {v : Nat → Nat} (hb : ∀ i, i < n → b i = nI (v i) ∧ v i < n) {m p : Nat} (hp : p < n) (h1 : v p = m) (h2 : ∀ j, j < p → v j ≠ m) : fX10_placeAmong b (nI m) = some (nI (cu v m p)) := by
  have hm : m < n := by rw [← h1]; exact (hb p hp).2
  unfold fX10_placeAmong
  obtain ⟨a, c, q, ⟨rfl, rfl⟩, h⟩ := lpG2 (fX10_placeAmong_L4 b (nI m)) (fun i a c => a = nI (cu v m i) ∧ c = nI i) p (by
    rintro i a c hi ⟨rfl, rfl⟩
    refine ⟨_, _, ⟨rfl, rfl⟩, fun g => ?_⟩
    unfold fX10_placeAmong_L4 fX10_placeAmong_B30
    obtain ⟨e1, e2⟩ := hb i (by omega)
    have e3 := h2 i hi
    have g1 : ¬ (nI i < 0 ∨ 60 ≤ i) := by rw [l0, q_lt (by omega) (by omega)]; omega
    rw [q_cl (by omega), if_neg g1, e1, if_neg (by rw [q_eq (by omega) (by omega)]; omega), cu_s]
    by_cases c : m ≤ v i
    · rw [if_pos (by rw [q_le (by omega) (by omega)]; exact c), if_neg (by omega), l0, l1, q_add, q_add]
    · rw [if_neg (by rw [q_le (by omega) (by omega)]; exact c), if_pos (by omega), l1, q_add, q_add]) p 0 (nI 0) (nI 0) FU (by omega) (FU_gt (by omega)) ⟨rfl, rfl⟩
  rw [l0, h]
  unfold fX10_placeAmong_L4
  have g1 : ¬ (nI p < 0 ∨ 60 ≤ p) := by rw [l0, q_lt (by omega) (by omega)]; omega
  rw [q_cl (by omega), if_neg g1, (hb p hp).1, h1, if_pos rfl]
def pr (t : Nat → Nat) : Nat → Nat
  | 0 => 0
  | m + 1 => pr t m * (m + 1) + tn (pr t m) m (t m)
theorem pr_s (t : Nat → Nat) (m : Nat) : pr t (m + 1) = pr t m * (m + 1) + tn (pr t m) m (t m) := rfl
theorem pr_lt {n : Nat} {t : Nat → Nat} (ht : ∀ m, m < n → t m ≤ m) : ∀ m, m ≤ n → pr t m + 1 ≤ fc m
  | 0, _ => Nat.le_refl 1
  | m + 1, h => by
    have ih := pr_lt ht m (by omega)
    have h1 := tn_le (p := pr t m) (ht m (by omega))
    rw [pr_s, fc_s]
    refine Nat.le_trans ?_ (Nat.mul_le_mul_left (m + 1) ih)
    rw [Nat.mul_comm (m + 1) (pr t m + 1), Nat.add_mul (pr t m) 1 (m + 1), Nat.one_mul]; omega
theorem pr_1 {n : Nat} {t : Nat → Nat} (ht : ∀ m, m < n → t m ≤ m) (h : 1 ≤ n) : pr t 1 = 0 := by
  have := pr_lt ht 1 h
  have h2 : fc 1 = 1 := rfl
  omega
theorem x_pr {n : Nat} (h1n : 1 ≤ n) (hn : n ≤ 20) {b : Nat → Int32} {v t : Nat → Nat} (hb : ∀ i, i < n → b i = nI (v i) ∧ v i < n) (ht : Tur n v t) : fX5_plainPlace (nI n) b = some (lN (pr t n)) := by
  unfold fX5_plainPlace
  obtain ⟨a, c, q, ⟨rfl, rfl⟩, h⟩ := lpG2 (fX5_plainPlace_L5 (nI n) b) (fun m a c => a = lN (pr t m) ∧ c = nI m) n (by
    rintro m a c hm ⟨rfl, rfl⟩
    refine ⟨_, _, ⟨rfl, rfl⟩, fun g => ?_⟩
    obtain ⟨k0, p, k1, k2, k3, k4⟩ := ht m hm
    have k5 := tn_le (p := pr t m) k0
    unfold fX5_plainPlace_L5
    rw [if_neg (by rw [q_le (by omega) (by omega)]; omega), x_lessB hn hb k1 k2 k3, Option.bind_some, k4, q_turn k0, Option.bind_some, l1, q_add, q_i2l (by omega), q_i2l (by omega), Q_mul, Q_add, pr_s]) (n - 1) 1 (lN 0) (nI 1) FU (by omega) (FU_gt (by omega)) ⟨by rw [pr_1 (fun m hm => (ht m hm).1) h1n], rfl⟩
  rw [L0, l1, h]
  unfold fX5_plainPlace_L5
  rw [if_pos (by rw [q_le (by omega) (by omega)]; omega)]
theorem m_pr {n : Nat} (h1n : 1 ≤ n) (hn : n ≤ 20) {T : Nat → Int64} {b of : Nat → Int32} {v t : Nat → Nat} (hb : ∀ i, i < n → b i = nI (v i) ∧ v i < n) (ht : Tur n v t) (h0 : of 0 = nI n) (h1 : of 1 = nI 1) : fX10_permutationRank b T of = some (lN (pr t n)) := by
  have ht' : ∀ m, m < n → t m ≤ m := fun m hm => (ht m hm).1
  have e : ∀ x, fX10_permutationRank_B65 b T of x = some x := by
    intro x
    unfold fX10_permutationRank_B65
    obtain ⟨f, hf, -⟩ := suc_of (FU_gt (k := 0) (by omega))
    rw [hf, it2_s]
    unfold fX10_permutationRank_L67
    by_cases c : of 0 ≤ 0
    · rw [if_pos c]
    · rw [if_neg c, if_pos (by rw [h1, l0, q_eq (by omega) (by omega)]; omega)]
  unfold fX10_permutationRank
  obtain ⟨a, c, q, ⟨rfl, rfl⟩, h⟩ := lpG2 (fX10_permutationRank_L4 b T of) (fun m a c => a = lN (pr t m) ∧ c = nI m) n (by
    rintro m a c hm ⟨rfl, rfl⟩
    refine ⟨_, _, ⟨rfl, rfl⟩, fun g => ?_⟩
    obtain ⟨k0, p, k1, k2, k3, k4⟩ := ht m hm
    have k5 := tn_le (p := pr t m) k0
    have k6 := pr_lt ht' m (by omega)
    have k7 := fc_lt (n := m) (by omega)
    unfold fX10_permutationRank_L4 fX10_permutationRank_B56
    rw [if_neg (by rw [h0, q_le (by omega) (by omega)]; omega), if_neg (by rw [h1]; exact fun z => z rfl), m_among hn hb k1 k2 k3, Option.bind_some, k4, L2, Q_rem (by omega) (by omega) (by omega), l1, q_add, q_i2l (by omega), q_i2l (by omega), q_sub k0, q_i2l (by omega), Q_mul, Q_add, Q_add, pr_s, Nat.mul_comm (m + 1)]
    unfold tn
    by_cases c : pr t m % 2 = 0
    · rw [if_pos c, if_neg (by rw [L0, Q_eq (by omega) (by omega)]; omega)]
    · rw [if_neg c, if_pos (by rw [L0, Q_eq (by omega) (by omega)]; omega)]) (n - 1) 1 (lN 0) (nI 1) FU (by omega) (FU_gt (by omega)) ⟨by rw [pr_1 ht' h1n], rfl⟩
  rw [L0, l1, h]
  unfold fX10_permutationRank_L4
  rw [if_pos (by rw [h0, q_le (by omega) (by omega)]; omega), e]
theorem accP_v {n : Nat} {b : Nat → Int32} (hb : AccP n b) : (∀ i, i < n → b i = nI ((fun i => (b i).toNatClampNeg) i) ∧ (fun i => (b i).toNatClampNeg) i < n) ∧ Inj n (fun i => (b i).toNatClampNeg) :=
  ⟨fun i hi => ⟨(hb i hi).1, (hb i hi).2.1⟩, fun i j hj hi => (hb i hi).2.2 j hj⟩
theorem rank1 {n o : Nat} (h1n : 1 ≤ n) (hn : n ≤ 20) (ho : o ≤ 1) {T : Nat → Int64} (hT : TF T) {b L Z of : Nat → Int32} {R : Nat → Int64} (hb : AccP n b) (h0 : of 0 = nI n) (h1 : of 1 = nI o) : ∃ r : Nat, r < fc n ∧ fX5_placeOf (nI n) (nI o) b L R Z = some (lN r, L, R, Z) ∧ fX10_permutationRank b T of = some (lN r) := by
  obtain ⟨h2, h3⟩ := accP_v hb
  unfold fX5_placeOf
  by_cases c : o = 1
  · subst c
    obtain ⟨t, ht⟩ := tur_of h3 (fun j hj => (h2 j hj).2)
    refine ⟨pr t n, pr_lt (fun m hm => (ht m hm).1) n (Nat.le_refl n), ?_, m_pr h1n hn h2 ht h0 h1⟩
    rw [l1, if_neg (fun z => z rfl), x_pr h1n hn h2 ht, Option.bind_some]
  · obtain rfl : o = 0 := by omega
    refine ⟨hr (fun i => (b i).toNatClampNeg) n n, ?_, ?_, ?_⟩
    · have := hr_lt (fun i => (b i).toNatClampNeg) n n (Nat.le_refl n)
      rw [Nat.sub_self, show fc 0 = 1 from rfl] at this
      omega
    · rw [if_pos (by rw [l1, q_eq (by omega) (by omega)]; omega), x_hr hn h2, Option.bind_some]
    · rw [m_hs h1n hn hT h2 h0 h1, hs_hr _ n n (Nat.le_refl n), Nat.sub_self, show fc 0 = 1 from rfl, Nat.mul_one]
