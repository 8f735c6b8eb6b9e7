/-! ===== pure part 15: arrangements, accepted ===== -/
def l4n (z : Int32) : Nat := if 0 ≤ z.toInt ∧ z.toInt < 4 then z.toNatClampNeg else 4
theorem l4n_in {z : Int32} (h : 0 ≤ z.toInt ∧ z.toInt < 4) : l4n z < 4 ∧ z = nI (l4n z) := by
  unfold l4n
  rw [if_pos h]
  exact ⟨by rw [i_cl]; omega, i_of h.1⟩
theorem l4n_out {z : Int32} (h : ¬ (0 ≤ z.toInt ∧ z.toInt < 4)) : l4n z = 4 := if_neg h
theorem l4n_nI {x : Nat} (h : x < 4) : l4n (nI x) = x := by
  unfold l4n
  rw [i_nI (by omega), if_pos (by omega), q_cl (by omega)]
theorem l4n_eq (z : Int32) {x : Nat} (h : x < 4) : z = nI x ↔ l4n z = x := by
  constructor
  · intro e; rw [e, l4n_nI h]
  · intro e
    by_cases c : 0 ≤ z.toInt ∧ z.toInt < 4
    · rw [← e]; exact (l4n_in c).2
    · rw [l4n_out c] at e; omega
def AccA (c : Nat → Nat) (b : Nat → Int32) : Prop := (∀ i, i < sm c → l4n (b i) < 4) ∧ ∀ x, x < 4 → cn (fun i => l4n (b i)) x (sm c) = c x
theorem cn_mono {v : Nat → Nat} {m : Nat} : ∀ {i j}, i ≤ j → cn v m i ≤ cn v m j
  | i, 0, h => by obtain rfl : i = 0 := by omega
                  omega
  | i, j + 1, h => by
    by_cases e : i = j + 1
    · subst e; omega
    · have := cn_mono (v := v) (m := m) (i := i) (j := j) (by omega)
      rw [cn_s]; omega
theorem cn_4 {v : Nat → Nat} : ∀ n, cn v 0 n + cn v 1 n + cn v 2 n + cn v 3 n ≤ n ∧ (cn v 0 n + cn v 1 n + cn v 2 n + cn v 3 n = n ↔ ∀ i, i < n → v i < 4)
  | 0 => ⟨Nat.le_refl 0, fun _ i h => by omega, fun _ => rfl⟩
  | n + 1 => by
    obtain ⟨h1, h2⟩ := cn_4 (v := v) n
    rw [cn_s, cn_s, cn_s, cn_s]
    by_cases c : v n < 4
    · have e : (if v n = 0 then 1 else 0) + (if v n = 1 then 1 else 0) + (if v n = 2 then 1 else 0) + (if v n = 3 then 1 else 0) = 1 := by
        have : v n = 0 ∨ v n = 1 ∨ v n = 2 ∨ v n = 3 := by omega
        rcases this with h | h | h | h <;> rw [h] <;> rfl
      refine ⟨by omega, fun h i hi => ?_, fun h => ?_⟩
      · by_cases q : i = n
        · subst q; exact c
        · exact h2.mp (by omega) i (by omega)
      · have := h2.mpr (fun i hi => h i (by omega))
        omega
    · rw [if_neg (by omega), if_neg (by omega), if_neg (by omega), if_neg (by omega)]
      exact ⟨by omega, fun h => by omega, fun h => absurd (h n (by omega)) c⟩
theorem x_letters {c : Nat → Nat} (hs : sm c ≤ 20) (L : Nat → Int32) : ∃ L', fX1_layOutLetters L (nI (c 0)) (nI (c 1)) (nI (c 2)) (nI (c 3)) = some L' ∧ L4 L' c := by
  unfold fX1_layOutLetters
  obtain ⟨a, L', m, ⟨rfl, hL⟩, h⟩ := lpG2 (fX1_layOutLetters_L2 (nI (c 0)) (nI (c 1)) (nI (c 2)) (nI (c 3))) (fun i a L => a = nI i ∧ ∀ y, y < i → L y = nI (c y)) 4 (by
    rintro i a L hi ⟨rfl, hL⟩
    refine ⟨_, upd L i (nI (c i)), ⟨rfl, fun y hy => ?_⟩, fun g => ?_⟩
    · by_cases e : y = i
      · subst e; rw [upd_s]
      · rw [upd_n e]; exact hL y (by omega)
    · have e : fX1_setting (nI (c 0)) (nI (c 1)) (nI (c 2)) (nI (c 3)) (nI i) = some (nI (c i)) := by
        unfold fX1_setting
        have : i = 0 ∨ i = 1 ∨ i = 2 ∨ i = 3 := by omega
        rcases this with rfl | rfl | rfl | rfl
        · rw [if_pos (by decide)]
        · rw [if_neg (by decide), if_pos (by decide)]
        · rw [if_neg (by decide), if_neg (by decide), if_pos (by decide)]
        · rw [if_neg (by decide), if_neg (by decide), if_neg (by decide), if_pos (by decide)]
      unfold fX1_layOutLetters_L2
      rw [if_neg (by rw [l4, q_le (by omega) (by omega)]; omega), e, Option.bind_some, q_set (by omega) (by omega), Option.bind_some, l1, q_add]) 4 0 (nI 0) L FU (by omega) (FU_gt (by omega)) ⟨rfl, fun y hy => by omega⟩
  rw [l0, h]
  refine ⟨L', ?_, hL⟩
  unfold fX1_layOutLetters_L2
  rw [if_pos (by rw [l4, q_le (by omega) (by omega)]; omega)]
theorem m_letters {c : Nat → Nat} {of : Nat → Int32} (hof : L4 of c) (L : Nat → Int32) : ∃ L', fX10_leaveAll L of = some L' ∧ L4 L' c := by
  unfold fX10_leaveAll
  obtain ⟨a, L', m, ⟨rfl, hL⟩, h⟩ := lpG2 (fX10_leaveAll_L2 of) (fun i a L => a = nI i ∧ ∀ y, y < i → L y = nI (c y)) 4 (by
    rintro i a L hi ⟨rfl, hL⟩
    refine ⟨_, upd L i (nI (c i)), ⟨rfl, fun y hy => ?_⟩, fun g => ?_⟩
    · by_cases e : y = i
      · subst e; rw [upd_s]
      · rw [upd_n e]; exact hL y (by omega)
    · have g1 : ¬ (nI i < 0 ∨ 4 ≤ i) := by rw [l0, q_lt (by omega) (by omega)]; omega
      unfold fX10_leaveAll_L2
      rw [if_neg (by rw [l4, q_le (by omega) (by omega)]; omega), q_cl (by omega), if_neg g1, hof i hi, l1, q_add]) 4 0 (nI 0) L FU (by omega) (FU_gt (by omega)) ⟨rfl, fun y hy => by omega⟩
  rw [l0, h]
  refine ⟨L', ?_, hL⟩
  unfold fX10_leaveAll_L2
  rw [if_pos (by rw [l4, q_le (by omega) (by omega)]; omega)]
theorem m_long5 {c : Nat → Nat} {of : Nat → Int32} (hof : L4 of c) : fX10_longNow (nI 5) of = some (nI (sm c)) := by
  unfold fX10_longNow
  rw [if_pos (by decide), if_pos (by decide), if_neg (by decide), hof 0 (by omega), hof 1 (by omega), hof 2 (by omega), hof 3 (by omega), q_add, q_add, q_add]; rfl
theorem m_many {c : Nat → Nat} (hs : sm c ≤ 20) {b of : Nat → Int32} (hof : L4 of c) {x : Nat} (hx : x < 4) : fX10_manyIn (nI 5) b of (nI x) = some (nI (cn (fun i => l4n (b i)) x (sm c))) := by
  unfold fX10_manyIn
  obtain ⟨a, a2, m, ⟨rfl, rfl⟩, h⟩ := lpG2 (fX10_manyIn_L4 (nI 5) b of (nI x)) (fun i a k => a = nI (cn (fun i => l4n (b i)) x i) ∧ k = nI i) (sm c) (by
    rintro i a k hi ⟨rfl, rfl⟩
    refine ⟨_, _, ⟨rfl, rfl⟩, fun g => ?_⟩
    have g1 : ¬ (nI i < 0 ∨ 60 ≤ i) := by rw [l0, q_lt (by omega) (by omega)]; omega
    unfold fX10_manyIn_L4 fX10_manyIn_B28
    rw [m_long5 hof, Option.bind_some, if_neg (by rw [q_le (by omega) (by omega)]; omega), q_cl (by omega), if_neg g1, cn_s]
    by_cases e : b i = nI x
    · rw [if_neg (fun z => z e), if_pos ((l4n_eq _ hx).mp e), l1, q_add, q_add]
    · rw [if_pos e, if_neg (fun z => e ((l4n_eq _ hx).mpr z)), l0, l1, q_add, q_add]) (sm c) 0 (nI 0) (nI 0) FU (by omega) (FU_gt (by omega)) ⟨rfl, rfl⟩
  rw [l0, h]
  unfold fX10_manyIn_L4
  rw [m_long5 hof, Option.bind_some, if_pos (by rw [q_le (by omega) (by omega)]; omega)]
theorem m_good5 {c : Nat → Nat} (hs : sm c ≤ 20) {b of S : Nat → Int32} (hof : L4 of c) : ∃ v : Int32, fX10_isGood (nI 5) S b of = some (v, S) ∧ (v = 0 ∧ ¬ AccA c b ∨ v = 1 ∧ AccA c b) := by
  have hm := fun x hx => m_many hs (b := b) hof (x := x) hx
  have h4 := cn_4 (v := fun i => l4n (b i)) (sm c)
  have hne : ∀ x, x < 4 → ¬ nI (cn (fun i => l4n (b i)) x (sm c)) = of x → ∃ v : Int32, fX10_isGood_B125 S = some (v, S) ∧ (v = 0 ∧ ¬ AccA c b ∨ v = 1 ∧ AccA c b) :=
    fun x hx hn => ⟨0, rfl, Or.inl ⟨rfl, fun z => hn (by rw [z.2 x hx, hof x hx])⟩⟩
  have heq : ∀ x, x < 4 → nI (cn (fun i => l4n (b i)) x (sm c)) = of x → cn (fun i => l4n (b i)) x (sm c) = c x := by
    intro x hx h
    have h5 := sm_x (c := c) hx
    have h6 : cn (fun i => l4n (b i)) x (sm c) ≤ sm c := by
      have : x = 0 ∨ x = 1 ∨ x = 2 ∨ x = 3 := by omega
      rcases this with rfl | rfl | rfl | rfl <;> omega
    rw [hof x hx, q_eq (by omega) (by omega)] at h
    exact h
  unfold fX10_isGood
  rw [if_neg (by decide), if_neg (by decide), if_neg (by decide), if_neg (by decide), if_neg (by decide), l0, l1, l2, l3, hm 0 (by omega), Option.bind_some]
  by_cases c0 : nI (cn (fun i => l4n (b i)) 0 (sm c)) = of 0
  · rw [if_neg (fun z => z c0), hm 1 (by omega), Option.bind_some]
    by_cases c1 : nI (cn (fun i => l4n (b i)) 1 (sm c)) = of 1
    · rw [if_neg (fun z => z c1), hm 2 (by omega), Option.bind_some]
      by_cases c2 : nI (cn (fun i => l4n (b i)) 2 (sm c)) = of 2
      · rw [if_neg (fun z => z c2), hm 3 (by omega), Option.bind_some]
        by_cases c3 : nI (cn (fun i => l4n (b i)) 3 (sm c)) = of 3
        · rw [if_neg (fun z => z c3)]
          have k0 := heq 0 (by omega) c0
          have k1 := heq 1 (by omega) c1
          have k2 := heq 2 (by omega) c2
          have k3 := heq 3 (by omega) c3
          refine ⟨_, rfl, Or.inr ⟨rfl, h4.2.mp (by rw [k0, k1, k2, k3]; rfl), fun x hx => ?_⟩⟩
          have : x = 0 ∨ x = 1 ∨ x = 2 ∨ x = 3 := by omega
          rcases this with rfl | rfl | rfl | rfl
          · exact k0
          · exact k1
          · exact k2
          · exact k3
        · rw [if_pos c3]; exact hne 3 (by omega) c3
      · rw [if_pos c2]; exact hne 2 (by omega) c2
    · rw [if_pos c1]; exact hne 1 (by omega) c1
  · rw [if_pos c0]; exact hne 0 (by omega) c0
theorem x_acc5 {c : Nat → Nat} (hs : sm c ≤ 20) (b L Z : Nat → Int32) : ∃ (v : Int32) (L' : Nat → Int32), fX1_accepts (nI (sm c)) (nI (c 0)) (nI (c 1)) (nI (c 2)) (nI (c 3)) b L Z = some (v, L', Z) ∧ (v = 0 ∧ ¬ AccA c b ∨ v = 1 ∧ AccA c b) := by
  obtain ⟨L0', e0, h0⟩ := x_letters hs L
  have key : ∀ d i f (L : Nat → Int32), i + d = sm c → d < f → (∀ j, j < i → l4n (b j) < 4) → (∀ y, y < 4 → cn (fun i => l4n (b i)) y i ≤ c y) → L4 L (fun y => c y - cn (fun i => l4n (b i)) y i) → ∃ (v : Int32) (L' : Nat → Int32), rk_it2 (fX1_accepts_L10 (nI (sm c)) b Z) f (nI i) L = some (v, L', Z) ∧ (v = 0 ∧ ¬ AccA c b ∨ v = 1 ∧ AccA c b) := by
    intro d
    induction d with
    | zero =>
      intro i f L hi hf h1 h2 h3
      obtain ⟨f, rfl, -⟩ := suc_of hf
      have h4 := cn_4 (v := fun i => l4n (b i)) i
      have h5 := h4.2.mpr h1
      have k0 := h2 0 (by omega)
      have k1 := h2 1 (by omega)
      have k2 := h2 2 (by omega)
      have k3 := h2 3 (by omega)
      obtain rfl : i = sm c := by omega
      refine ⟨1, L, ?_, Or.inr ⟨rfl, h1, fun x hx => ?_⟩⟩
      · rw [it2_s]; unfold fX1_accepts_L10; rw [if_pos (by rw [q_le (by omega) (by omega)]; omega)]
      · have h6 : sm c = c 0 + c 1 + c 2 + c 3 := rfl
        have : x = 0 ∨ x = 1 ∨ x = 2 ∨ x = 3 := by omega
        rcases this with rfl | rfl | rfl | rfl <;> omega
    | succ d ih =>
      intro i f L hi hf h1 h2 h3
      obtain ⟨f, rfl, hf⟩ := suc_of hf
      rw [it2_s]
      unfold fX1_accepts_L10
      have z0 : (0 : Int32).toInt = 0 := by decide
      have z4 : (4 : Int32).toInt = 4 := by decide
      rw [if_neg (by rw [q_le (by omega) (by omega)]; omega), q_at (by omega) (by omega), Option.bind_some]
      by_cases r : 0 ≤ (b i).toInt ∧ (b i).toInt < 4
      · obtain ⟨r1, r2⟩ := l4n_in r
        rw [if_neg (by rw [i_lt, z0]; omega), if_neg (by rw [i_le, z4]; omega)]
        have h3' : L (l4n (b i)) = nI (c (l4n (b i)) - cn (fun i => l4n (b i)) (l4n (b i)) i) := h3 _ r1
        have h7 := h2 _ r1
        have h8 := sm_x (c := c) r1
        have e : ∀ (g : Int32 → Option (Int32 × (Nat → Int32) × (Nat → Int32))), (fX9_at 4 L (b i)).bind g = g (nI (c (l4n (b i)) - cn (fun i => l4n (b i)) (l4n (b i)) i)) := by
          intro g
          have := q_at (n := 4) (c := L) r1 (by omega)
          rw [← r2] at this
          rw [this, Option.bind_some, h3']
        rw [e]
        by_cases w : cn (fun i => l4n (b i)) (l4n (b i)) i < c (l4n (b i))
        · rw [if_pos (by rw [l1, q_le (by omega) (by omega)]; omega)]
          have e2 := x_chg (L := L) r1 (-1)
          rw [← r2, h3', q_m1 (by omega)] at e2
          rw [e2, Option.bind_some, l1, q_add]
          have hcn : ∀ y, cn (fun i => l4n (b i)) y (i + 1) = cn (fun i => l4n (b i)) y i + if l4n (b i) = y then 1 else 0 := fun y => rfl
          refine ih (i + 1) f _ (by omega) (by omega) (fun j hj => ?_) (fun y hy => ?_) (fun y hy => ?_)
          · by_cases q : j = i
            · subst q; exact r1
            · exact h1 j (by omega)
          · rw [hcn]
            by_cases q : l4n (b i) = y
            · rw [if_pos q, ← q]; omega
            · rw [if_neg q]; exact h2 y hy
          · show _ = nI (c y - cn (fun i => l4n (b i)) y (i + 1))
            rw [hcn]
            by_cases q : l4n (b i) = y
            · rw [if_pos q, ← q, upd_s, Nat.sub_sub]
            · rw [if_neg q, upd_n (fun z => q z.symm)]; exact h3 y hy
        · rw [if_neg (by rw [l1, q_le (by omega) (by omega)]; omega)]
          refine ⟨0, L, rfl, Or.inl ⟨rfl, fun z => ?_⟩⟩
          have h9 := z.2 _ r1
          have h10 := cn_mono (v := fun i => l4n (b i)) (m := l4n (b i)) (i := i + 1) (j := sm c) (by omega)
          rw [cn_s, if_pos rfl] at h10
          omega
      · have : ∃ (v : Int32) (L' : Nat → Int32), some ((0 : Int32), L, Z) = some (v, L', Z) ∧ (v = 0 ∧ ¬ AccA c b ∨ v = 1 ∧ AccA c b) := by
          refine ⟨0, L, rfl, Or.inl ⟨rfl, fun z => ?_⟩⟩
          have := z.1 i (by omega)
          rw [l4n_out r] at this
          omega
        by_cases r1 : (b i).toInt < 0
        · rw [if_pos (by rw [i_lt, z0]; exact r1)]; exact this
        · rw [if_neg (by rw [i_lt, z0]; exact r1), if_pos (by rw [i_le, z4]; omega)]; exact this
  obtain ⟨v, L', e1, e2⟩ := key (sm c) 0 FU L0' (by omega) (FU_gt (by omega)) (fun j hj => by omega) (fun y hy => Nat.zero_le _) (fun y hy => h0 y hy)
  refine ⟨v, L', ?_, e2⟩
  unfold fX1_accepts
  rw [e0, Option.bind_some, l0, e1]
