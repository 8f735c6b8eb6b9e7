/-! ===== pure part 21: partitions, laid and conjugated ===== -/
theorem pt_least {s r : Nat} : ∀ g, r < pt g s → ∃ v, v ≤ g ∧ r < pt v s ∧ ∀ u, u < v → pt u s ≤ r
  | 0, h => ⟨0, Nat.le_refl 0, h, fun u hu => by omega⟩
  | g + 1, h => by
    by_cases c : r < pt g s
    · obtain ⟨v, h1, h2, h3⟩ := pt_least g c
      exact ⟨v, by omega, h2, h3⟩
    · refine ⟨g + 1, Nat.le_refl _, h, fun u hu => ?_⟩
      have := pt_mono (s := s) (m := u) (m' := g) (by omega)
      omega
theorem pt_pick {g s r : Nat} (h : r < pt g s) : ∃ v, v ≤ g ∧ v ≤ s ∧ (s = 0 ∨ 1 ≤ v) ∧ r < pt v s ∧ (∀ u, u < v → pt u s ≤ r) ∧ ps s v ≤ r ∧ r - ps s v < pt v (s - v) := by
  obtain ⟨v, h1, h2, h3⟩ := pt_least g h
  have h4 : v ≤ s := by
    by_cases c : v ≤ s
    · exact c
    · have h5 := h3 s (by omega)
      rw [pt_top (m := v) (by omega)] at h2
      omega
  by_cases z : s = 0
  · subst z
    obtain rfl : v = 0 := by omega
    exact ⟨0, h1, h4, Or.inl rfl, h2, h3, Nat.zero_le r, by show r - 0 < pt 0 (0 - 0); rw [Nat.sub_zero]; exact h2⟩
  · have h5 : 1 ≤ v := by
      by_cases c : v = 0
      · subst c; rw [pt_0, if_neg z] at h2; omega
      · omega
    obtain ⟨w, rfl⟩ : ∃ w, v = w + 1 := ⟨v - 1, by omega⟩
    have h6 := h3 w (by omega)
    refine ⟨w + 1, h1, h4, Or.inr h5, h2, h3, ?_, ?_⟩
    · rw [ps_pt (by omega) (by omega)]; exact h6
    · rw [ps_pt (by omega) (by omega)]
      rw [pt_s w s z, if_pos h4] at h2
      omega
theorem lay4_aux {n : Nat} (hn : n ≤ 60) {Q : Nat → Int32} {P : Nat → Int64} (hQ : TQ Q) (hP : TP P) {L Z of : Nat → Int32} {R : Nat → Int64} (h0 : of 0 = nI n) : ∀ d i f f' g s r (a a' : Nat → Int32), i + d = n → d < f → d < f' → g ≤ 60 → s ≤ n → r < pt g s → (∀ j, j < i → a j = a' j ∧ ∃ x, x < 61 ∧ a j = nI x) → ∃ w w', rk_it5 (fX4_lay_L18 (nI n) L R Z Q) f (lN r) (nI s) (nI g) (nI i) a = some (w, L, R, Z) ∧ rk_it4 (fX10_makesPartition_L13 of P) f' (lN r) (nI s) (nI i) a' = some w' ∧ Same n 61 w w' := by
  intro d
  induction d with
  | zero =>
    intro i f f' g s r a a' hi hf hf' hg hs hr hj
    obtain ⟨f, rfl, -⟩ := suc_of hf
    obtain ⟨f', rfl, -⟩ := suc_of hf'
    obtain rfl : i = n := by omega
    refine ⟨a, a', ?_, ?_, hj⟩
    · rw [it5_s]; unfold fX4_lay_L18; rw [if_pos (by rw [q_le (by omega) (by omega)]; omega)]
    · rw [it4_s]; unfold fX10_makesPartition_L13; rw [if_pos (by rw [h0, q_le (by omega) (by omega)]; omega)]
  | succ d ih =>
    intro i f f' g s r a a' hi hf hf' hg hs hr hj
    obtain ⟨f, rfl, hf⟩ := suc_of hf
    obtain ⟨f', rfl, hf'⟩ := suc_of hf'
    obtain ⟨v, v1, v2, v3, v4, v5, v6, v7⟩ := pt_pick hr
    have hb := pt_lt (m := g) (s := s) (by omega)
    have ih := ih (i + 1) f f' v (s - v) (r - ps s v) (upd a i (nI v)) (upd a' i (nI v)) (by omega) (by omega) (by omega) (by omega) (by omega) v7 (fun j hj' => by
      by_cases e : j = i
      · subst e; rw [upd_s, upd_s]; exact ⟨rfl, v, by omega, rfl⟩
      · rw [upd_n e, upd_n e]; exact hj j (by omega))
    rw [it5_s, it4_s]
    generalize rk_it5 (fX4_lay_L18 (nI n) L R Z Q) f = gx at ih ⊢
    generalize rk_it4 (fX10_makesPartition_L13 of P) f' = gm at ih ⊢
    have e1 : nI i + 1 = nI (i + 1) := by rw [l1, q_add]
    have ex : fX4_lay_L18 (nI n) L R Z Q gx (lN r) (nI s) (nI g) (nI i) a = gx (lN (r - ps s v)) (nI (s - v)) (nI v) (nI (i + 1)) (upd a i (nI v)) := by
      have e2 : fX4_lay_B71 Q (lN r) (nI s) (nI i) a gx (nI v) = gx (lN (r - ps s v)) (nI (s - v)) (nI v) (nI (i + 1)) (upd a i (nI v)) := by
        unfold fX4_lay_B71 fX4_lay_B94
        rw [q_set (by omega) (by omega), q_sub v2, e1]
        rcases v3 with z | z
        · obtain rfl : v = 0 := by omega
          rw [if_pos (by rw [l0, q_le (by omega) (by omega)]; omega), Option.bind_some, L0, Q_sub (by omega)]
          rfl
        · have e3 : ps s v = pt (v - 1) s := by rw [← ps_pt (by omega) (by omega), show v - 1 + 1 = v by omega]
          have e4 := pt_lt (m := v - 1) (s := s) (by omega)
          rw [if_neg (by rw [l0, q_le (by omega) (by omega)]; omega), l1, q_sub z, q_parts hQ (by omega) (by omega), Option.bind_some, Option.bind_some, q_i2l e4, Q_sub (by omega), e3]
      obtain ⟨k, hk, he⟩ : ∃ k, (if (1 : Int32) < nI s then (1 : Int32) else nI s) = nI k ∧ (k ≤ v ∧ (s = 0 ∨ 1 ≤ k)) := by
        by_cases c : 1 < s
        · exact ⟨1, by rw [if_pos (by rw [l1, q_lt (by omega) (by omega)]; exact c), l1], by omega⟩
        · exact ⟨s, by rw [if_neg (by rw [l1, q_lt (by omega) (by omega)]; exact c)], by omega⟩
      obtain ⟨x, rfl, h⟩ := lpK1 (fun (q : Int64 → Int32 → Int32 → Int32 → (Nat → Int32) → Option ((Nat → Int32) × (Nat → Int32) × (Nat → Int64) × (Nat → Int32))) => fX4_lay_L35 Q (lN r) (nI s) (nI g) (nI i) a q) (fun l x => x = nI l) v (by
        rintro l x hl rfl
        refine ⟨_, rfl, fun q g' => ?_⟩
        have h5 := v5 l hl
        unfold fX4_lay_L35
        rw [if_neg (by rw [q_le (by omega) (by omega)]; omega), if_neg (by rw [q_le (by omega) (by omega)]; omega), q_parts hQ (by omega) (by omega), Option.bind_some, q_i2l (by omega), if_neg (by rw [Q_lt (by omega) (by omega)]; omega), l1, q_add]) (v - k) k (nI k) FU (by omega) (FU_gt (by omega)) rfl
      obtain ⟨m, h⟩ := h gx
      unfold fX4_lay_L18
      rw [if_neg (by rw [q_le (by omega) (by omega)]; omega), hk, h]
      unfold fX4_lay_L35
      rw [e2]
      by_cases c1 : g ≤ v
      · rw [if_pos (by rw [q_le (by omega) (by omega)]; exact c1)]
      · rw [if_neg (by rw [q_le (by omega) (by omega)]; exact c1)]
        by_cases c2 : s ≤ v
        · rw [if_pos (by rw [q_le (by omega) (by omega)]; exact c2)]
        · have e4 := pt_lt (m := v) (s := s) (by omega)
          rw [if_neg (by rw [q_le (by omega) (by omega)]; exact c2), q_parts hQ (by omega) (by omega), Option.bind_some, q_i2l e4, if_pos (by rw [Q_lt (by omega) (by omega)]; exact v4)]
    have em : fX10_makesPartition_L13 of P gm (lN r) (nI s) (nI i) a' = gm (lN (r - ps s v)) (nI (s - v)) (nI (i + 1)) (upd a' i (nI v)) := by
      obtain ⟨x, y, ⟨rfl, rfl⟩, h⟩ := lpK2 (fun q => fX10_makesPartition_L27 P (nI s) (nI i) a' q) (fun l x y => x = lN (r - ps s l) ∧ y = nI l) v (by
        rintro l x y hl ⟨rfl, rfl⟩
        refine ⟨_, _, ⟨rfl, rfl⟩, fun q g' => ?_⟩
        have h5 := v5 l hl
        rw [← ps_pt (by omega) (by omega), ps_s] at h5
        have g2 : ¬ (nI (61 * l + s - l) < 0 ∨ 3721 ≤ 61 * l + s - l) := by rw [l0, q_lt (by omega) (by omega)]; omega
        have e4 := pt_lt (m := l) (s := s - l) (by omega)
        unfold fX10_makesPartition_L27
        rw [l61, q_mul, q_add, q_sub (by omega), q_cl (by omega), if_neg g2, show 61 * l + s - l = 61 * l + (s - l) by omega, hP _ _ (by omega) (by omega), if_neg (by rw [Q_lt (by omega) (by omega)]; omega), l1, q_add, Q_sub (by omega), ps_s, Nat.sub_sub]) v 0 (lN r) (nI 0) FU (by omega) (FU_gt (by omega)) ⟨rfl, rfl⟩
      obtain ⟨m, h⟩ := h gm
      have g1 : ¬ (nI i < 0 ∨ 60 ≤ i) := by rw [l0, q_lt (by omega) (by omega)]; omega
      have g2 : ¬ (nI (61 * v + s - v) < 0 ∨ 3721 ≤ 61 * v + s - v) := by rw [l0, q_lt (by omega) (by omega)]; omega
      have e4 := pt_lt (m := v) (s := s - v) (by omega)
      unfold fX10_makesPartition_L13
      rw [h0, if_neg (by rw [q_le (by omega) (by omega)]; omega), l0, h]
      unfold fX10_makesPartition_L27
      rw [l61, q_mul, q_add, q_sub (by omega), q_cl (by omega), if_neg g2, show 61 * v + s - v = 61 * v + (s - v) by omega, hP _ _ (by omega) (by omega), if_pos (by rw [Q_lt (by omega) (by omega)]; omega), q_cl (by omega), if_neg g1, q_sub v2, e1]
    rw [ex, em]
    exact ih
theorem lay4 {g n r : Nat} (hg : g ≤ 60) (hn : n ≤ 60) {Q : Nat → Int32} {P : Nat → Int64} (hQ : TQ Q) (hP : TP P) {L Z of : Nat → Int32} {R : Nat → Int64} (h0 : of 0 = nI n) (hr : r < pt g n) (a a' : Nat → Int32) : ∃ w w', fX4_lay a (nI n) (nI g) L R Z Q (lN r) = some (w, L, R, Z) ∧ fX10_makesPartition a' of P (lN r) = some w' ∧ Same n 61 w w' := by
  unfold fX4_lay fX10_makesPartition
  rw [h0, l0]
  exact lay4_aux hn hQ hP h0 n 0 FU FU g n r a a' (by omega) (FU_gt (by omega)) (FU_gt (by omega)) hg (Nat.le_refl n) hr (fun j hj => by omega)
