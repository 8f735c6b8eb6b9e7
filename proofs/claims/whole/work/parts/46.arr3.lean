/-! ===== pure part 16: arrangements, ranked ===== -/
def cc (c v : Nat → Nat) (i : Nat) : Nat → Nat := fun y => c y - cn v y i
theorem cc_0 (c v : Nat → Nat) : cc c v 0 = c := rfl
theorem cc_s (c v : Nat → Nat) (i : Nat) : cc c v (i + 1) = dn (cc c v i) (v i) := by
  funext y
  show c y - (cn v y i + if v i = y then 1 else 0) = if y = v i then c y - cn v y i - 1 else c y - cn v y i
  by_cases e : v i = y
  · rw [if_pos e, if_pos e.symm]; omega
  · rw [if_neg e, if_neg (fun z => e z.symm)]; rfl
def ra (c v : Nat → Nat) : Nat → Nat
  | 0 => 0
  | i + 1 => ra c v i + ls (cc c v i) (v i)
theorem ra_s (c v : Nat → Nat) (i : Nat) : ra c v (i + 1) = ra c v i + ls (cc c v i) (v i) := rfl
/-- every letter is there when it is wanted -/
def Fit (c v : Nat → Nat) (n : Nat) : Prop := ∀ i, i < n → v i < 4 ∧ cc c v i (v i) ≠ 0
theorem fit_sm {c v : Nat → Nat} {n : Nat} (h : Fit c v n) : ∀ i, i ≤ n → sm (cc c v i) + i = sm c
  | 0, _ => rfl
  | i + 1, hi => by
    have := fit_sm h i (by omega)
    obtain ⟨h1, h2⟩ := h i (by omega)
    have h3 := sm_dn h1 h2
    rw [cc_s]; omega
theorem fit_ra {c v : Nat → Nat} {n : Nat} (h : Fit c v n) : ∀ i, i ≤ n → ra c v i + mu (cc c v i) ≤ mu c
  | 0, _ => by rw [cc_0]; show 0 + mu c ≤ mu c; omega
  | i + 1, hi => by
    have h0 := fit_ra h i (by omega)
    obtain ⟨h1, h2⟩ := h i (by omega)
    have h3 := sm_x (c := cc c v i) h1
    have h4 := wy_le (c := cc c v i) h1 (by omega)
    unfold wy at h4
    rw [if_neg h2] at h4
    rw [cc_s, ra_s]; omega
theorem acc_fit {c : Nat → Nat} {b : Nat → Int32} (h : AccA c b) : Fit c (fun i => l4n (b i)) (sm c) := by
  intro i hi
  refine ⟨h.1 i hi, ?_⟩
  have h1 := h.2 _ (h.1 i hi)
  have h2 := cn_mono (v := fun i => l4n (b i)) (m := l4n (b i)) (i := i + 1) (j := sm c) (by omega)
  rw [cn_s, if_pos rfl] at h2
  show c (l4n (b i)) - cn (fun i => l4n (b i)) (l4n (b i)) i ≠ 0
  omega
theorem rank5 {c : Nat → Nat} (hs : sm c ≤ 20) {B T : Nat → Int64} (hB : TB B) (hT : TC T) {b L L' Z of : Nat → Int32} {R : Nat → Int64} (hb : AccA c b) (hof : L4 of c) : ∃ r L1 L2, r < mu c ∧ fX1_placeOf (nI (sm c)) (nI (c 0)) (nI (c 1)) (nI (c 2)) (nI (c 3)) b L R Z B = some (lN r, L1, R, Z) ∧ fX10_arrangementRank (nI 5) L' b T of = some (lN r, L2) := by
  have hf := acc_fit hb
  have hmu := mu_lt hs
  obtain ⟨K0, e0, k0⟩ := x_letters hs L
  obtain ⟨K0', e0', k0'⟩ := m_letters hof L'
  have hv : ∀ i, i < sm c → b i = nI (l4n (b i)) ∧ l4n (b i) < 4 := fun i hi => ⟨(l4n_eq _ (hb.1 i hi)).mpr rfl, hb.1 i hi⟩
  obtain ⟨x, y, L1, m, ⟨rfl, rfl, k1⟩, h⟩ := lpG3 (fX1_placeOf_L13 (nI (sm c)) b R Z B) (fun i x y L => x = lN (ra c (fun i => l4n (b i)) i) ∧ y = nI i ∧ L4 L (cc c (fun i => l4n (b i)) i)) (sm c) (by
    rintro i x y L hi ⟨rfl, rfl, hL⟩
    obtain ⟨v1, v2⟩ := hv i hi
    have v3 : cc c (fun i => l4n (b i)) i (l4n (b i)) ≠ 0 := (hf i hi).2
    have v4 := fit_sm hf i (by omega)
    refine ⟨_, _, upd L (l4n (b i)) (nI (cc c (fun i => l4n (b i)) i (l4n (b i)) - 1)), ⟨rfl, rfl, ?_⟩, fun g => ?_⟩
    · rw [cc_s]; exact L4_dn hL v3 v2
    · obtain ⟨x, y, M, ⟨rfl, rfl, rfl⟩, h⟩ := lpK3 (fun q => fX1_placeOf_L33 B (nI i) q (b i)) (fun l x y M => x = lN (ra c (fun i => l4n (b i)) i + ls (cc c (fun i => l4n (b i)) i) l) ∧ y = nI l ∧ M = L) (l4n (b i)) (by
        rintro l x y M hl ⟨rfl, rfl, rfl⟩
        refine ⟨_, _, _, ⟨rfl, rfl, rfl⟩, fun q g => ?_⟩
        unfold fX1_placeOf_L33
        rw [v1, if_neg (by rw [q_le (by omega) (by omega)]; omega), x_ways hB hL (by omega) (by omega), Option.bind_some, l1, q_add, Q_add, ls_s, Nat.add_assoc]) (l4n (b i)) 0 (lN (ra c (fun i => l4n (b i)) i)) (nI 0) L FU (by omega) (FU_gt (by omega)) ⟨rfl, rfl, rfl⟩
      obtain ⟨m, h⟩ := h g
      have e1 := x_chg (L := M) v2 (-1)
      rw [hL _ v2, q_m1 (by omega)] at e1
      unfold fX1_placeOf_L13
      rw [if_neg (by rw [q_le (by omega) (by omega)]; omega), q_at (by omega) (by omega), Option.bind_some, l0, h]
      unfold fX1_placeOf_L33
      rw [v1, l4n_nI v2, if_pos (by rw [q_le (by omega) (by omega)]; omega), e1, Option.bind_some, l1, q_add, ra_s]) (sm c) 0 (lN 0) (nI 0) K0 FU (by omega) (FU_gt (by omega)) ⟨rfl, rfl, k0⟩
  obtain ⟨x, y, L2, m', ⟨rfl, rfl, k2⟩, h'⟩ := lpG3 (fX10_arrangementRank_L8 (nI 5) b T of) (fun i x y L => x = lN (ra c (fun i => l4n (b i)) i) ∧ y = nI i ∧ L4 L (cc c (fun i => l4n (b i)) i)) (sm c) (by
    rintro i x y L hi ⟨rfl, rfl, hL⟩
    obtain ⟨v1, v2⟩ := hv i hi
    have v3 : cc c (fun i => l4n (b i)) i (l4n (b i)) ≠ 0 := (hf i hi).2
    have v4 := fit_sm hf i (by omega)
    have g1 : ¬ (nI i < 0 ∨ 60 ≤ i) := by rw [l0, q_lt (by omega) (by omega)]; omega
    refine ⟨_, _, upd L (l4n (b i)) (nI (cc c (fun i => l4n (b i)) i (l4n (b i)) - 1)), ⟨rfl, rfl, ?_⟩, fun g => ?_⟩
    · rw [cc_s]; exact L4_dn hL v3 v2
    · obtain ⟨x, y, M, ⟨rfl, rfl, rfl⟩, h⟩ := lpK3 (fun q => fX10_arrangementRank_L19 b T (nI i) q) (fun l x y M => x = lN (ra c (fun i => l4n (b i)) i + ls (cc c (fun i => l4n (b i)) i) l) ∧ y = nI l ∧ M = L) (l4n (b i)) (by
        rintro l x y M hl ⟨rfl, rfl, rfl⟩
        refine ⟨_, _, _, ⟨rfl, rfl, rfl⟩, fun q g => ?_⟩
        unfold fX10_arrangementRank_L19
        rw [q_cl (by omega), if_neg g1, v1, if_neg (by rw [q_le (by omega) (by omega)]; omega), m_ways hT hL (by omega) (by omega), Option.bind_some, l1, q_add, Q_add, ls_s, Nat.add_assoc]) (l4n (b i)) 0 (lN (ra c (fun i => l4n (b i)) i)) (nI 0) L FU (by omega) (FU_gt (by omega)) ⟨rfl, rfl, rfl⟩
      obtain ⟨m, h⟩ := h g
      have g2 : ¬ (nI (l4n (b i)) < 0 ∨ 4 ≤ l4n (b i)) := by rw [l0, q_lt (by omega) (by omega)]; omega
      unfold fX10_arrangementRank_L8
      rw [m_long5 hof, Option.bind_some, if_neg (by rw [q_le (by omega) (by omega)]; omega), l0, h]
      unfold fX10_arrangementRank_L19
      rw [q_cl (by omega), if_neg g1, v1, l4n_nI v2, if_pos (by rw [q_le (by omega) (by omega)]; omega), q_cl (by omega), if_neg g2, hL _ v2, l1, q_sub (by omega), q_add, ra_s]) (sm c) 0 (lN 0) (nI 0) K0' FU (by omega) (FU_gt (by omega)) ⟨rfl, rfl, k0'⟩
  refine ⟨ra c (fun i => l4n (b i)) (sm c), L1, L2, ?_, ?_, ?_⟩
  · have h1 := fit_ra hf (sm c) (Nat.le_refl _)
    have h2 := mu_pos (cc c (fun i => l4n (b i)) (sm c))
    omega
  · unfold fX1_placeOf
    rw [e0, Option.bind_some, l0, L0, h]
    unfold fX1_placeOf_L13
    rw [if_pos (by rw [q_le (by omega) (by omega)]; omega)]
  · unfold fX10_arrangementRank
    rw [e0', Option.bind_some, l0, L0, h']
    unfold fX10_arrangementRank_L8
    rw [m_long5 hof, Option.bind_some, if_pos (by rw [q_le (by omega) (by omega)]; omega)]
