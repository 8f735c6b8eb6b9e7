/-! ===== pure part 3: the reference's last tables, and its constructor ===== -/
def TPr (m : Nat) (T : Nat → Int64) : Prop := ∀ a s : Nat, a < m → s ≤ 60 → T (61 * a + s) = lN (pt a s)
theorem q_mpar (T0 : Nat → Int64) : ∃ T, fX10_layParted T0 = some T ∧ TP T := by
  unfold fX10_layParted
  obtain ⟨a', T, m, ⟨rfl, hT⟩, h3⟩ := lpG2 fX10_layParted_L2 (fun n a T => a = nI n ∧ TPr n T) 61 (by
    rintro n a T hn ⟨rfl, hT⟩
    obtain ⟨a', U, ⟨rfl, hU, hr⟩, hq⟩ := lpK2 (fX10_layParted_L10 (nI n)) (fun s a U => a = nI s ∧ TPr n U ∧ ∀ j, j < s → U (61 * n + j) = lN (pt n j)) 61 (by
      rintro s a U hs ⟨rfl, hU, hr⟩
      have put : ∀ v : Int64, v = lN (pt n s) → TPr n (vp_updL U (61 * n + s) v) ∧ ∀ j, j < s + 1 → (vp_updL U (61 * n + s) v) (61 * n + j) = lN (pt n j) := by
        intro v hv
        constructor
        · intro a j ha hj
          rw [updL_n (by omega)]; exact hU a j ha hj
        · intro j hj
          by_cases q : j = s
          · subst q; rw [updL_s, hv]
          · rw [updL_n (by omega)]; exact hr j (by omega)
      by_cases s0 : s = 0
      · subst s0
        refine ⟨nI (0 + 1), vp_updL U (61 * n + 0) (1 : Int64), ⟨rfl, put _ (by rw [pt_z]; rfl)⟩, fun q g => ?_⟩
        unfold fX10_layParted_L10 fX10_layParted_B25 fX10_layParted_B71
        simp (disch := omega) only [l61, l0, l1, q_le, q_eq, q_mul, q_add, q_lt, q_cl]
        rw [if_neg (by omega), if_neg (by simp)]
        by_cases n0 : n ≤ 0
        · rw [if_pos n0, if_neg (by omega)]
        · rw [if_neg n0, if_pos (by omega), if_neg (by omega)]
      · by_cases n0 : n = 0
        · subst n0
          refine ⟨nI (s + 1), vp_updL U (61 * 0 + s) (0 : Int64), ⟨rfl, put _ (by rw [pt_0, if_neg s0]; rfl)⟩, fun q g => ?_⟩
          unfold fX10_layParted_L10 fX10_layParted_B25 fX10_layParted_B71
          simp (disch := omega) only [l61, l0, l1, q_le, q_eq, q_mul, q_add, q_lt, q_cl]
          rw [if_neg (by omega), if_pos s0, if_pos (by omega), if_neg (by omega)]
        · obtain ⟨n', rfl⟩ : ∃ n', n = n' + 1 := ⟨n - 1, by omega⟩
          have e1 := hU n' s (by omega) (by omega)
          by_cases c : s < n' + 1
          · refine ⟨nI (s + 1), vp_updL U (61 * (n' + 1) + s) (U (61 * n' + s) + (0 : Int64)), ⟨rfl, put _ (by rw [e1, L0, Q_add, pt_s n' s s0, if_neg (by omega)])⟩, fun q g => ?_⟩
            unfold fX10_layParted_L10 fX10_layParted_B25 fX10_layParted_B69 fX10_layParted_B71
            simp (disch := omega) only [l61, l0, l1, q_le, q_eq, q_mul, q_add, q_lt, q_cl, q_sub, Nat.add_sub_cancel]
            rw [if_neg (by omega), if_pos s0, if_neg (by omega), if_neg (by omega), if_neg (by omega), if_pos c, if_neg (by omega)]
          · have e2 := hr (s - (n' + 1)) (by omega)
            refine ⟨nI (s + 1), vp_updL U (61 * (n' + 1) + s) (U (61 * n' + s) + U (61 * (n' + 1) + s - (n' + 1))), ⟨rfl, put _ (by rw [show 61 * (n' + 1) + s - (n' + 1) = 61 * (n' + 1) + (s - (n' + 1)) by omega, e1, e2, Q_add, pt_s n' s s0, if_pos (by omega)])⟩, fun q g => ?_⟩
            unfold fX10_layParted_L10 fX10_layParted_B25 fX10_layParted_B69 fX10_layParted_B71
            simp (disch := omega) only [l61, l0, l1, q_le, q_eq, q_mul, q_add, q_lt, q_cl, q_sub, Nat.add_sub_cancel]
            rw [if_neg (by omega), if_pos s0, if_neg (by omega), if_neg (by omega), if_neg (by omega), if_neg c, if_neg (by omega), if_neg (by omega)]) 61 0 (nI 0) T FU (by omega) (FU_gt (by omega)) ⟨rfl, hT, fun j hj => by omega⟩
    refine ⟨nI (n + 1), U, ⟨rfl, ?_⟩, fun g => ?_⟩
    · intro a s ha hs
      by_cases q : a = n
      · subst q; exact hr s (by omega)
      · exact hU a s (by omega) hs
    · obtain ⟨m, hm⟩ := hq g
      unfold fX10_layParted_L2
      simp (disch := omega) only [l61, l0, q_le]
      rw [if_neg (by omega), hm]
      unfold fX10_layParted_L10
      simp (disch := omega) only [l61, l1, q_le, q_add]
      rw [if_pos (by omega)]) 61 0 (nI 0) T0 FU (by omega) (FU_gt (by omega)) ⟨rfl, fun a s ha => by omega⟩
  refine ⟨T, ?_, fun m s hm hs => hT m s (by omega) hs⟩
  rw [show (0 : Int32) = nI 0 from rfl, h3]
  unfold fX10_layParted_L2
  simp (disch := omega) only [l61, q_le]
  rw [if_pos (by omega)]
def TLr (l : Nat) (T : Nat → Int64) : Prop := ∀ a o : Nat, a < l → o ≤ 41 → T (42 * a + o) = lN (bl a o)
theorem bl_s0 (l : Nat) : bl (l + 1) 0 = bl l 1 := rfl
theorem bl_ss (l o : Nat) : bl (l + 1) (o + 1) = bl l (o + 2) + bl l o := rfl
theorem q_mclo (T0 : Nat → Int64) : ∃ T, fX10_layClosed T0 = some T ∧ TL T := by
  unfold fX10_layClosed
  obtain ⟨a', T, m, ⟨rfl, hT⟩, h3⟩ := lpG2 fX10_layClosed_L2 (fun n a T => a = nI n ∧ TLr n T) 41 (by
    rintro n a T hn ⟨rfl, hT⟩
    obtain ⟨a', U, ⟨rfl, hU, hr⟩, hq⟩ := lpK2 (fX10_layClosed_L10 (nI n)) (fun s a U => a = nI s ∧ TLr n U ∧ ∀ j, j < s → U (42 * n + j) = lN (bl n j)) 42 (by
      rintro s a U hs ⟨rfl, hU, hr⟩
      have put : ∀ v : Int64, v = lN (bl n s) → TLr n (vp_updL U (42 * n + s) v) ∧ ∀ j, j < s + 1 → (vp_updL U (42 * n + s) v) (42 * n + j) = lN (bl n j) := by
        intro v hv
        constructor
        · intro a j ha hj
          rw [updL_n (by omega)]; exact hU a j ha hj
        · intro j hj
          by_cases q : j = s
          · subst q; rw [updL_s, hv]
          · rw [updL_n (by omega)]; exact hr j (by omega)
      by_cases n0 : n = 0
      · subst n0
        by_cases s0 : s = 0
        · subst s0
          refine ⟨nI (0 + 1), vp_updL U (42 * 0 + 0) (1 : Int64), ⟨rfl, put _ rfl⟩, fun q g => ?_⟩
          unfold fX10_layClosed_L10 fX10_layClosed_B29 fX10_layClosed_B88
          simp (disch := omega) only [l42, l0, l1, q_le, q_eq, q_mul, q_add, q_lt, q_cl]
          rw [if_neg (by omega), if_neg (by simp), if_neg (by simp), if_pos (by omega), if_neg (by omega)]
        · refine ⟨nI (s + 1), vp_updL U (42 * 0 + s) (0 : Int64), ⟨rfl, put _ (by rw [bl_out (by omega)]; rfl)⟩, fun q g => ?_⟩
          unfold fX10_layClosed_L10 fX10_layClosed_B28 fX10_layClosed_B29 fX10_layClosed_B88
          simp (disch := omega) only [l42, l0, l1, q_le, q_eq, q_mul, q_add, q_lt, q_cl]
          rw [if_neg (by omega), if_neg (by simp), if_pos s0, if_pos (by omega), if_neg (by omega)]
      · obtain ⟨n', rfl⟩ : ∃ n', n = n' + 1 := ⟨n - 1, by omega⟩
        by_cases c : s < 41
        · have e1 := hU n' (s + 1) (by omega) (by omega)
          by_cases s0 : s = 0
          · subst s0
            refine ⟨nI (0 + 1), vp_updL U (42 * (n' + 1) + 0) (((0 : Int64) + U (42 * n' + 0 + 1)) + (0 : Int64)), ⟨rfl, put _ (by rw [show 42 * n' + 0 + 1 = 42 * n' + (0 + 1) by omega, e1, L0, Q_add, Q_add, bl_s0, Nat.zero_add, Nat.add_zero])⟩, fun q g => ?_⟩
            unfold fX10_layClosed_L10
            simp (disch := omega) only [l42, l41, l0, l1, q_le, q_eq, q_mul, q_add, q_lt, q_cl, q_sub, Nat.add_sub_cancel]
            rw [if_neg (by omega), if_pos n0]
            unfold fX10_layClosed_B28 fX10_layClosed_B29
            simp (disch := omega) only [l42, l41, l0, l1, q_le, q_eq, q_mul, q_add, q_lt, q_cl, q_sub, Nat.add_sub_cancel]
            rw [if_neg (by omega), if_neg (by omega), if_neg (by omega)]
            unfold fX10_layClosed_B60
            simp (disch := omega) only [l42, l41, l0, l1, q_le, q_eq, q_mul, q_add, q_lt, q_cl, q_sub, Nat.add_sub_cancel]
            rw [if_pos (by omega)]
            unfold fX10_layClosed_B86 fX10_layClosed_B88
            simp (disch := omega) only [l42, l41, l0, l1, q_le, q_eq, q_mul, q_add, q_lt, q_cl, q_sub, Nat.add_sub_cancel]
            rw [if_neg (by omega)]
          · have e2 := hU n' (s - 1) (by omega) (by omega)
            refine ⟨nI (s + 1), vp_updL U (42 * (n' + 1) + s) (((0 : Int64) + U (42 * n' + s + 1)) + U (42 * n' + s - 1)), ⟨rfl, put _ (by
              obtain ⟨t, rfl⟩ : ∃ t, s = t + 1 := ⟨s - 1, by omega⟩
              rw [show 42 * n' + (t + 1) + 1 = 42 * n' + (t + 1 + 1) by omega, show 42 * n' + (t + 1) - 1 = 42 * n' + (t + 1 - 1) by omega, e1, e2, L0, Q_add, Q_add, bl_ss, Nat.zero_add]; rfl)⟩, fun q g => ?_⟩
            unfold fX10_layClosed_L10
            simp (disch := omega) only [l42, l41, l0, l1, q_le, q_eq, q_mul, q_add, q_lt, q_cl, q_sub, Nat.add_sub_cancel]
            rw [if_neg (by omega), if_pos n0]
            unfold fX10_layClosed_B28 fX10_layClosed_B29
            simp (disch := omega) only [l42, l41, l0, l1, q_le, q_eq, q_mul, q_add, q_lt, q_cl, q_sub, Nat.add_sub_cancel]
            rw [if_neg (by omega), if_neg (by omega), if_neg (by omega)]
            unfold fX10_layClosed_B60
            simp (disch := omega) only [l42, l41, l0, l1, q_le, q_eq, q_mul, q_add, q_lt, q_cl, q_sub, Nat.add_sub_cancel]
            rw [if_neg (by omega), if_neg (by omega)]
            unfold fX10_layClosed_B86 fX10_layClosed_B88
            simp (disch := omega) only [l42, l41, l0, l1, q_le, q_eq, q_mul, q_add, q_lt, q_cl, q_sub, Nat.add_sub_cancel]
            rw [if_neg (by omega)]
        · obtain rfl : s = 41 := by omega
          have e2 := hU n' 40 (by omega) (by omega)
          refine ⟨nI (41 + 1), vp_updL U (42 * (n' + 1) + 41) (((0 : Int64) + (0 : Int64)) + U (42 * n' + 41 - 1)), ⟨rfl, put _ (by
            rw [show 42 * n' + 41 - 1 = 42 * n' + 40 by omega, e2, L0, Q_add, Q_add, bl_out (l := n' + 1) (o := 41) (by omega), bl_out (l := n') (o := 40) (by omega)])⟩, fun q g => ?_⟩
          unfold fX10_layClosed_L10
          simp (disch := omega) only [l42, l41, l0, l1, q_le, q_eq, q_mul, q_add, q_lt, q_cl, q_sub, Nat.add_sub_cancel]
          rw [if_neg (by omega), if_pos n0]
          unfold fX10_layClosed_B28 fX10_layClosed_B29
          simp (disch := omega) only [l42, l41, l0, l1, q_le, q_eq, q_mul, q_add, q_lt, q_cl, q_sub, Nat.add_sub_cancel]
          rw [if_neg (by omega), if_pos (by omega)]
          unfold fX10_layClosed_B60
          simp (disch := omega) only [l42, l41, l0, l1, q_le, q_eq, q_mul, q_add, q_lt, q_cl, q_sub, Nat.add_sub_cancel]
          rw [if_neg (by omega), if_neg (by omega)]
          unfold fX10_layClosed_B86 fX10_layClosed_B88
          simp (disch := omega) only [l42, l41, l0, l1, q_le, q_eq, q_mul, q_add, q_lt, q_cl, q_sub, Nat.add_sub_cancel]
          rw [if_neg (by omega)]) 42 0 (nI 0) T FU (by omega) (FU_gt (by omega)) ⟨rfl, hT, fun j hj => by omega⟩
    refine ⟨nI (n + 1), U, ⟨rfl, ?_⟩, fun g => ?_⟩
    · intro a s ha hs
      by_cases q : a = n
      · subst q; exact hr s (by omega)
      · exact hU a s (by omega) hs
    · obtain ⟨m, hm⟩ := hq g
      unfold fX10_layClosed_L2
      simp (disch := omega) only [l41, l0, q_le]
      rw [if_neg (by omega), hm]
      unfold fX10_layClosed_L10
      simp (disch := omega) only [l42, l1, q_le, q_add]
      rw [if_pos (by omega)]) 41 0 (nI 0) T0 FU (by omega) (FU_gt (by omega)) ⟨rfl, fun a s ha => by omega⟩
  refine ⟨T, ?_, fun m s hm hs => hT m s (by omega) hs⟩
  rw [show (0 : Int32) = nI 0 from rfl, h3]
  unfold fX10_layClosed_L2
  simp (disch := omega) only [l41, q_le]
  rw [if_pos (by omega)]
theorem q_minit : ∃ T Fc Ct Pt Cl, fX10_init = some (T, Fc, Ct, Pt, Cl) ∧ TC T ∧ TF Fc ∧ TK Ct ∧ TP Pt ∧ TL Cl := by
  unfold fX10_init
  obtain ⟨a', T, m, ⟨rfl, hT⟩, h3⟩ := lpG2 fX10_init_L127 (fun n a T => a = nI n ∧ TCr n T) 61 (by
    rintro n a T hn ⟨rfl, hT⟩
    obtain ⟨U, h1, h2⟩ := q_mcho (fun _ _ => none) n T hn hT
    refine ⟨nI (n + 1), U, ⟨rfl, h1⟩, fun g => ?_⟩
    unfold fX10_init_L127
    simp (disch := omega) only [l61, l0, q_le]
    rw [if_neg (by omega)]
    exact h2 g) 61 0 (nI 0) rk_z64 FU (by omega) (FU_gt (by omega)) ⟨rfl, fun a s ha => by omega⟩
  obtain ⟨Fc, Ct, h4, h5, h6⟩ := q_mfac T hT
  obtain ⟨Pt, h7, h8⟩ := q_mpar rk_z64
  obtain ⟨Cl, h9, h10⟩ := q_mclo rk_z64
  refine ⟨T, Fc, Ct, Pt, Cl, ?_, fun n k hk hn => hT n k hk (by omega), h4, h5, h8, h10⟩
  rw [show (0 : Int32) = nI 0 from rfl, h3]
  unfold fX10_init_L127
  simp (disch := omega) only [l61, l1, q_le]
  rw [if_pos (by omega), h6, h7, h9]
  rfl
