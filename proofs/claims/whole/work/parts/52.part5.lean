/-! ===== pure part 22: partitions conjugated ===== -/
def cg (v : Nat → Nat) (i : Nat) : Nat → Nat
  | 0 => 0
  | j + 1 => cg v i j + if i < v j then 1 else 0
theorem cg_s (v : Nat → Nat) (i j : Nat) : cg v i (j + 1) = cg v i j + if i < v j then 1 else 0 := rfl
theorem cg_le (v : Nat → Nat) (i : Nat) : ∀ j, cg v i j ≤ j
  | 0 => Nat.le_refl 0
  | j + 1 => by
    have := cg_le v i j
    rw [cg_s]
    by_cases c : i < v j
    · rw [if_pos c]; omega
    · rw [if_neg c]; omega
theorem cg_anti (v : Nat → Nat) {i i' : Nat} (h : i ≤ i') : ∀ j, cg v i' j ≤ cg v i j
  | 0 => Nat.le_refl 0
  | j + 1 => by
    have := cg_anti v h j
    rw [cg_s, cg_s]
    by_cases c : i' < v j
    · rw [if_pos c, if_pos (by omega)]; omega
    · rw [if_neg c]; omega
theorem su_add (u w : Nat → Nat) : ∀ n, su (fun i => u i + w i) n = su u n + su w n
  | 0 => rfl
  | n + 1 => by rw [su_s, su_s, su_s, su_add u w n]; omega
theorem su_min (x : Nat) : ∀ N, su (fun i => if i < x then 1 else 0) N = min x N
  | 0 => by show 0 = min x 0; omega
  | N + 1 => by
    rw [su_s, su_min x N]
    by_cases c : N < x
    · rw [if_pos c]; omega
    · rw [if_neg c]; omega
theorem su_cg (v : Nat → Nat) (N : Nat) : ∀ m, su (fun i => cg v i m) N = su (fun j => min (v j) N) m
  | 0 => by
    show su (fun _ => 0) N = 0
    have : ∀ k, su (fun _ => 0) k = 0 := by
      intro k; induction k with
      | zero => rfl
      | succ k ih => rw [su_s, ih]
    exact this N
  | m + 1 => by
    have e : (fun i => cg v i (m + 1)) = fun i => (fun i => cg v i m) i + (fun i => if i < v m then 1 else 0) i := rfl
    rw [e, su_add, su_cg v N m, su_min, su_s]
theorem su_cong {u w : Nat → Nat} : ∀ {n}, (∀ i, i < n → u i = w i) → su u n = su w n
  | 0, _ => rfl
  | n + 1, h => by rw [su_s, su_s, h n (by omega), su_cong (fun i hi => h i (by omega))]
theorem su_term {v : Nat → Nat} {n j : Nat} (h : j < n) : v j ≤ su v n := by
  have := su_mono (v := v) (i := j + 1) (j := n) h
  rw [su_s] at this; omega
theorem turn4 {g n : Nat} (hg : g ≤ 60) (h1n : 1 ≤ n) (hn : n ≤ 60) {b L Z of : Nat → Int32} (hb : AccT g n b) (h0 : of 0 = nI n) (a a' : Nat → Int32) : ∃ w w' x, fX4_turn a (nI n) b L Z = some (w, L, Z) ∧ fX10_conjugates a' b of = some w' ∧ (∀ j, j < n → w j = w' j) ∧ w' 0 = nI x ∧ x ≤ 60 ∧ (AccT g n w ↔ x ≤ g) := by
  obtain ⟨hv, hs⟩ := hb
  unfold fX4_turn fX10_conjugates
  obtain ⟨k, w, q, ⟨rfl, hw⟩, h⟩ := lpG2 (fX4_turn_L3 (nI n) b L Z) (fun i k a => k = nI i ∧ ∀ j, j < i → a j = nI (cg (fun i => (b i).toNatClampNeg) j n)) n (by
    rintro i k a hi ⟨rfl, ha⟩
    have hcn := cg_le (fun i => (b i).toNatClampNeg) i n
    refine ⟨_, upd a i (nI (cg (fun i => (b i).toNatClampNeg) i n)), ⟨rfl, fun j hj => ?_⟩, fun g => ?_⟩
    · by_cases e : j = i
      · subst e; rw [upd_s]
      · rw [upd_n e]; exact ha j (by omega)
    · obtain ⟨x, y, ⟨rfl, rfl⟩, h⟩ := lpK2 (fun q => fX4_turn_L18 (nI n) b (nI i) a q) (fun l x y => x = nI (cg (fun i => (b i).toNatClampNeg) i l) ∧ y = nI l) n (by
        rintro l x y hl ⟨rfl, rfl⟩
        refine ⟨_, _, ⟨rfl, rfl⟩, fun q g => ?_⟩
        obtain ⟨v1, v2⟩ := hv l hl
        have v3 : (b l).toNatClampNeg ≤ 60 := by
          have := su_term (v := fun i => (b i).toNatClampNeg) hl
          rw [hs] at this
          have h7 : (b l).toNatClampNeg ≤ n := this
          omega
        unfold fX4_turn_L18 fX4_turn_B41
        rw [if_neg (by rw [q_le (by omega) (by omega)]; omega), q_at (by omega) (by omega), Option.bind_some, l1, q_add, q_add, cg_s]
        by_cases c : i < (b l).toNatClampNeg
        · rw [if_neg (by rw [v1, q_le (by omega) (by omega)]; omega), if_pos c]
        · rw [if_pos (by rw [v1, q_le (by omega) (by omega)]; omega), if_neg c]; rfl) n 0 (nI 0) (nI 0) FU (by omega) (FU_gt (by omega)) ⟨rfl, rfl⟩
      obtain ⟨m, h⟩ := h g
      unfold fX4_turn_L3
      rw [if_neg (by rw [q_le (by omega) (by omega)]; omega), l0, h]
      unfold fX4_turn_L18
      rw [if_pos (by rw [q_le (by omega) (by omega)]; omega), q_set (by omega) (by omega), Option.bind_some, l1, q_add]) n 0 (nI 0) a FU (by omega) (FU_gt (by omega)) ⟨rfl, fun j hj => by omega⟩
  obtain ⟨k, w', q', ⟨rfl, hw'⟩, h'⟩ := lpG2 (fX10_conjugates_L2 b of) (fun i k a => k = nI i ∧ ∀ j, j < i → a j = nI (cg (fun i => (b i).toNatClampNeg) j n)) n (by
    rintro i k a hi ⟨rfl, ha⟩
    have g1 : ¬ (nI i < 0 ∨ 60 ≤ i) := by rw [l0, q_lt (by omega) (by omega)]; omega
    obtain ⟨x, y, ⟨rfl, hy1, hy2⟩, h⟩ := lpK2 (fun q => fX10_conjugates_L21 b of (nI i) q) (fun l x y => x = nI l ∧ y i = nI (cg (fun i => (b i).toNatClampNeg) i l) ∧ ∀ j, j ≠ i → y j = a j) n (by
      rintro l x y hl ⟨rfl, hy1, hy2⟩
      obtain ⟨v1, v2⟩ := hv l hl
      have v3 : (b l).toNatClampNeg ≤ 60 := by
        have := su_term (v := fun i => (b i).toNatClampNeg) hl
        rw [hs] at this
        have h7 : (b l).toNatClampNeg ≤ n := this
        omega
      refine ⟨_, upd y i (nI (cg (fun i => (b i).toNatClampNeg) i (l + 1))), ⟨rfl, by rw [upd_s], fun j hj => by rw [upd_n hj]; exact hy2 j hj⟩, fun q g => ?_⟩
      have g2 : ¬ (nI l < 0 ∨ 60 ≤ l) := by rw [l0, q_lt (by omega) (by omega)]; omega
      unfold fX10_conjugates_L21 fX10_conjugates_B53
      rw [h0, if_neg (by rw [q_le (by omega) (by omega)]; omega), q_cl (by omega), if_neg g2, q_cl (by omega), hy1, cg_s, l1, l0, q_add, q_add, q_add]
      by_cases c : i < (b l).toNatClampNeg
      · rw [if_neg (by rw [v1, q_le (by omega) (by omega)]; omega), if_pos c]
      · rw [if_pos (by rw [v1, q_le (by omega) (by omega)]; omega), if_neg c]) n 0 (nI 0) (upd a i 0) FU (by omega) (FU_gt (by omega)) ⟨rfl, by rw [upd_s]; rfl, fun j hj => by rw [upd_n hj]⟩
    refine ⟨_, y, ⟨rfl, fun j hj => ?_⟩, fun g => ?_⟩
    · by_cases e : j = i
      · subst e; exact hy1
      · rw [hy2 j e]; exact ha j (by omega)
    · obtain ⟨m, h⟩ := h g
      unfold fX10_conjugates_L2
      rw [h0, if_neg (by rw [q_le (by omega) (by omega)]; omega), q_cl (by omega), if_neg g1, l0]
      refine h.trans ?_
      unfold fX10_conjugates_L21
      rw [h0, if_pos (by rw [q_le (by omega) (by omega)]; omega), l1, q_add]) n 0 (nI 0) a' FU (by omega) (FU_gt (by omega)) ⟨rfl, fun j hj => by omega⟩
  rw [l0, h, h']
  have hc := fun i => cg_le (fun i => (b i).toNatClampNeg) i n
  refine ⟨w, w', cg (fun i => (b i).toNatClampNeg) 0 n, ?_, ?_, fun j hj => by rw [hw j hj, hw' j hj], hw' 0 (by omega), by have := hc 0; omega, ?_⟩
  · unfold fX4_turn_L3; rw [if_pos (by rw [q_le (by omega) (by omega)]; omega)]
  · unfold fX10_conjugates_L2; rw [h0, if_pos (by rw [q_le (by omega) (by omega)]; omega)]
  · have e : ∀ i, i < n → (w i).toNatClampNeg = cg (fun i => (b i).toNatClampNeg) i n := by
      intro i hi
      rw [hw i hi, q_cl (by have := hc i; omega)]
    constructor
    · intro z
      have := (z.1 0 (by omega)).2
      rw [e 0 (by omega)] at this
      exact this
    · intro z
      refine ⟨fun i hi => ⟨by rw [e i hi]; exact hw i hi, ?_⟩, ?_⟩
      · rw [e i hi]
        cases i with
        | zero => exact z
        | succ i =>
          show _ ≤ (w i).toNatClampNeg
          rw [e i (by omega)]
          exact cg_anti _ (by omega) n
      · rw [su_cong (w := fun i => cg (fun i => (b i).toNatClampNeg) i n) e, su_cg]
        refine (su_cong (fun j hj => ?_)).trans hs
        have := su_term (v := fun i => (b i).toNatClampNeg) hj
        rw [hs] at this
        exact Nat.min_eq_left this
