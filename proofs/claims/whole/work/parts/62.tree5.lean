/-! ===== pure part 32: trees, laid ===== -/
theorem ct_pos (n : Nat) : 0 < ct n := by
  have h := ct_mul n
  have h2 := cb_pos (n := 2 * n) (k := n) (by omega)
  rcases Nat.eq_zero_or_pos (ct n) with e | e
  · rw [e] at h; omega
  · exact e
theorem cvs_find {f : Nat → Nat} {n h : Nat} : ∀ {m}, h < cvs f n m → ∃ x, x < m ∧ cvs f n x ≤ h ∧ h < cvs f n x + f x * f (n - x)
  | 0, hm => by
    have hm : h < 0 := hm
    omega
  | m + 1, hm => by
    by_cases c : h < cvs f n m
    · obtain ⟨x, h1, h2⟩ := cvs_find c
      exact ⟨x, by omega, h2⟩
    · exact ⟨m, by omega, by omega, hm⟩
theorem tree_find {s h : Nat} (h1 : 1 ≤ s) (hs : s ≤ 30) (hh : h < ct s) : ∃ x, x + 1 ≤ s ∧ cvs ct (s - 1) x ≤ h ∧ h - cvs ct (s - 1) x < ct x * ct (s - 1 - x) := by
  obtain ⟨m, rfl⟩ : ∃ m, s = m + 1 := ⟨s - 1, by omega⟩
  rw [ct_cv (by omega)] at hh
  obtain ⟨x, a, b, c⟩ := cvs_find hh
  exact ⟨x, by omega, b, by show h - cvs ct m x < ct x * ct (m - x); omega⟩
theorem wk_put {s b : Nat} {l w : List Nat} (hb : b < ct s) (h : Wk l w) : Wk (prs s l) (prw s b w) := by
  unfold prs prw
  by_cases c : 0 < s
  · rw [if_pos c, if_pos c]; exact ⟨hb, h⟩
  · rw [if_neg c, if_neg c]; exact h
theorem x_splitRank {R : Nat → Int64} {B : Nat → Int64} (hB : TK B) {Z : Nat → Int32} {i s x t : Nat} {l q : List Nat} (hZ : Z i = nI s) (hx : x + 1 ≤ s) (hi : i + s ≤ 60) (hs : s ≤ 30) (ht : t < 9223372036854775808) (h : XR R (i + s) l q) : ∃ R', fX7_splitRank R Z B (nI i) (nI x) (lN t) = some R' ∧ XR R' (i + 1) (prs x (prs (s - 1 - x) l)) (prw x (t / ct (s - 1 - x)) (prw (s - 1 - x) (t % ct (s - 1 - x)) q)) := by
  have er : nI s - 1 - nI x = nI (s - 1 - x) := by rw [l1, q_sub (by omega), q_sub (by omega)]
  have ei : nI i + 1 = nI (i + 1) := by rw [l1, q_add]
  have ej : nI (i + 1) + nI x = nI (i + 1 + x) := q_add _ _
  have b1 := ct_lt (n := s - 1 - x) (by omega)
  have b2 := ct_pos (s - 1 - x)
  unfold fX7_splitRank fX7_splitRank_B42
  rw [q_at (by omega) (by omega), Option.bind_some, hZ, er, x_trees hB (by omega), Option.bind_some, ei, ej]
  generalize ct (s - 1 - x) = C at *
  by_cases c : 0 < x
  · rw [if_neg (show ¬ nI x ≤ 0 by rw [l0, q_le (by omega) (by omega)]; omega), q_quo ht b2 (by omega), Option.bind_some, q_setL (by omega) (by omega), Option.bind_some, show prs x (prs (s - 1 - x) l) = x :: prs (s - 1 - x) l from if_pos c, show prw x (t / C) (prw (s - 1 - x) (t % C) q) = t / C :: prw (s - 1 - x) (t % C) q from if_pos c]
    by_cases c2 : 0 < s - 1 - x
    · rw [if_neg (show ¬ nI (s - 1 - x) ≤ 0 by rw [l0, q_le (by omega) (by omega)]; omega), q_rmd ht b2 (by omega), Option.bind_some, q_setL (by omega) (by omega), Option.bind_some, show prs (s - 1 - x) l = (s - 1 - x) :: l from if_pos c2, show prw (s - 1 - x) (t % C) q = t % C :: q from if_pos c2]
      refine ⟨_, rfl, ⟨by rw [updL_n (by omega), updL_s]; rfl, by show vp_updL _ (i + 1 + x) (lN (t % C)) (i + 1 + x) = lN (t % C); rw [updL_s], ?_⟩⟩
      show XR _ (i + 1 + x + (s - 1 - x)) l q
      rw [show i + 1 + x + (s - 1 - x) = i + s by omega]
      exact XR_upd (XR_upd h (by omega)) (by omega)
    · rw [if_pos (show nI (s - 1 - x) ≤ 0 by rw [l0, q_le (by omega) (by omega)]; omega), show prs (s - 1 - x) l = l from if_neg c2, show prw (s - 1 - x) (t % C) q = q from if_neg c2]
      refine ⟨_, rfl, ⟨by rw [updL_s]; rfl, ?_⟩⟩
      show XR _ (i + 1 + x) l q
      rw [show i + 1 + x = i + s by omega]
      exact XR_upd h (by omega)
  · obtain rfl : x = 0 := by omega
    rw [if_pos (show nI 0 ≤ 0 by decide), show prs 0 (prs (s - 1 - 0) l) = prs (s - 1 - 0) l from if_neg c, show prw 0 (t / C) (prw (s - 1 - 0) (t % C) q) = prw (s - 1 - 0) (t % C) q from if_neg c]
    by_cases c2 : 0 < s - 1 - 0
    · rw [if_neg (show ¬ nI (s - 1 - 0) ≤ 0 by rw [l0, q_le (by omega) (by omega)]; omega), q_rmd ht b2 (by omega), Option.bind_some, q_setL (by omega) (by omega), Option.bind_some, show prs (s - 1 - 0) l = (s - 1 - 0) :: l from if_pos c2, show prw (s - 1 - 0) (t % C) q = t % C :: q from if_pos c2]
      refine ⟨_, rfl, ⟨by show vp_updL _ (i + 1) (lN (t % C)) (i + 1) = lN (t % C); rw [updL_s], ?_⟩⟩
      show XR _ (i + 1 + (s - 1 - 0)) l q
      rw [show i + 1 + (s - 1 - 0) = i + s by omega]
      exact XR_upd h (by omega)
    · rw [if_pos (show nI (s - 1 - 0) ≤ 0 by rw [l0, q_le (by omega) (by omega)]; omega), show prs (s - 1 - 0) l = l from if_neg c2, show prw (s - 1 - 0) (t % C) q = q from if_neg c2]
      refine ⟨_, rfl, ?_⟩
      rw [show i + 1 = i + s by omega]; exact h
theorem lay3_aux {n : Nat} (hn : n ≤ 30) {B K : Nat → Int64} (hB : TK B) (hK : TK K) {L of : Nat → Int32} (h0 : of 0 = nI n) : ∀ d i f f' ss q (a a' S Z : Nat → Int32) (R SL : Nat → Int64), i + d = n → d < f → d < f' → Pos ss → tot ss + i = n → Wk ss q → XS Z i ss → XR R i ss q → TS S ss → TW SL ss q → (∀ j, j < i → a j = a' j ∧ ∃ x, x < 30 ∧ a j = nI x) → ∃ w w' R' Z' SL' S', rk_it4 (fX7_lay_L26 (nI n) L B) f (nI i) a R Z = some (w, L, R', Z') ∧ rk_it5 (fX10_makesTree_L24 K of) f' (nI ss.length) (nI i) a' SL S = some (w', SL', S') ∧ Same n 30 w w' := by
  intro d
  induction d with
  | zero =>
    intro i f f' ss q a a' S Z R SL hi hf hf' h1 h2 h3 h4 h5 h6 h7 h8
    obtain ⟨f, rfl, hf⟩ := suc_of hf
    obtain ⟨f', rfl, hf'⟩ := suc_of hf'
    obtain rfl : i = n := by omega
    have hle : nI i ≤ nI i := by rw [q_le (by omega) (by omega)]; omega
    refine ⟨a, a', R, Z, SL, S, ?_, ?_, h8⟩
    · rw [it4_s]; unfold fX7_lay_L26; rw [if_pos hle]
    · rw [it5_s]; unfold fX10_makesTree_L24; rw [h0, if_pos hle]
  | succ d ih =>
    intro i f f' ss q a a' S Z R SL hi hf hf' h1 h2 h3 h4 h5 h6 h7 h8
    obtain ⟨f, rfl, hf⟩ := suc_of hf
    obtain ⟨f', rfl, hf'⟩ := suc_of hf'
    have ih := fun ss q a a' S Z R SL => ih (i + 1) f f' ss q a a' S Z R SL (by omega) (by omega) (by omega)
    rw [it4_s, it5_s]
    generalize rk_it4 (fX7_lay_L26 (nI n) L B) f = g at ih ⊢
    generalize rk_it5 (fX10_makesTree_L24 K of) f' = g' at ih ⊢
    cases ss with
    | nil =>
      have h2 : 0 + i = n := h2
      omega
    | cons s r =>
      have h2 : s + tot r + i = n := h2
      have k3 := h1 s List.mem_cons_self
      have k4 := pos_len (l := r) (fun x hx => h1 x (List.mem_cons_of_mem _ hx))
      obtain ⟨hZ1, hZ2⟩ := h4
      obtain ⟨hR1, hR2⟩ := h5
      obtain ⟨hS1, hS2⟩ := h6
      obtain ⟨hW1, hW2⟩ := h7
      obtain ⟨hq1, hq2⟩ := h3
      generalize hd q = h at *
      generalize q.tail = qt at *
      have bs := ct_lt (n := s) (by omega)
      obtain ⟨x, x1, x2, x3⟩ := tree_find k3 (by omega) hq1
      have cm : ∀ y, y < x → cvs ct (s - 1) y + ct y * ct (s - 1 - y) ≤ h := fun y hy => Nat.le_trans (cvs_mono (f := ct) (n := s - 1) (a := y + 1) (b := x) (by omega)) x2
      have ctop := fun y (hy : y + 1 ≤ s) => cvs_top (s := s) (x := y) (by omega) hy
      have er : ∀ y, y + 1 ≤ s → nI s - 1 - nI y = nI (s - 1 - y) := fun y hy => by rw [l1, q_sub (by omega), q_sub (by omega)]
      have ej : ∀ k : Nat, nI k + 1 = nI (k + 1) := fun k => by rw [l1, q_add]
      have e1 : nI s - 1 = nI (s - 1) := by rw [l1, q_sub (by omega)]
      have g1 : ¬ (nI i < 0 ∨ 60 ≤ i) := by rw [l0, q_lt (by omega) (by omega)]; omega
      have g2 : ¬ (nI r.length < 0 ∨ 64 ≤ r.length) := by rw [l0, q_lt (by omega) (by omega)]; omega
      have gk : ∀ k, k ≤ 30 → ¬ (nI k < 0 ∨ 31 ≤ k) := fun k hk => by rw [l0, q_lt (by omega) (by omega)]; omega
      obtain ⟨Z', ez, hz1, hz2⟩ := x_split (r := r) hZ1 x1 (by omega) hZ2
      obtain ⟨R', er', hr1⟩ := x_splitRank (R := R) (t := h - cvs ct (s - 1) x) hB ((hz2 i (Nat.le_refl i)).trans hZ1) x1 (by omega) (by omega) (by omega) hR2
      -- the class
      have hX : fX7_lay_L26 (nI n) L B g (nI i) a R Z = g (nI (i + 1)) (upd a i (nI x)) R' Z' := by
        obtain ⟨pl, y, z, ⟨rfl, rfl, rfl⟩, hh⟩ := lpK3 (fun q => fX7_lay_L67 B (nI i) a R Z q (nI s)) (fun y p t u => p = lN (h - cvs ct (s - 1) y) ∧ t = nI y ∧ u = nI y) x (by
          rintro y p t u hy ⟨rfl, rfl, rfl⟩
          have c1 := cm y hy
          have c2 := ctop y (by omega)
          refine ⟨_, _, _, ⟨rfl, rfl, rfl⟩, fun q g => ?_⟩
          unfold fX7_lay_L67
          rw [e1, if_neg (by rw [q_le (by omega) (by omega)]; omega), x_trees hB (by omega), Option.bind_some, q_sub (by omega), x_trees hB (by omega), Option.bind_some, Q_mul, if_pos (by rw [Q_le (by omega) (by omega)]; omega), Q_sub (by omega), ej, show h - cvs ct (s - 1) (y + 1) = h - cvs ct (s - 1) y - ct y * ct (s - 1 - y) from by show h - (cvs ct (s - 1) y + ct y * ct (s - 1 - y)) = _; omega]) x 0 (lN (h - cvs ct (s - 1) 0)) (nI 0) (nI 0) FU (by omega) (FU_gt (by omega)) ⟨rfl, rfl, rfl⟩
        obtain ⟨m, hh⟩ := hh g
        have fin : fX7_lay_B124 B (nI i) a R Z g (lN (h - cvs ct (s - 1) x)) (nI x) = g (nI (i + 1)) (upd a i (nI x)) R' Z' := by
          unfold fX7_lay_B124
          rw [q_set (by omega) (by omega), Option.bind_some, ez, Option.bind_some, er', Option.bind_some, ej]
        have hp := ctop x x1
        rw [show h - cvs ct (s - 1) 0 = h from rfl] at hh
        unfold fX7_lay_L26
        rw [if_neg (by rw [q_le (by omega) (by omega)]; omega), q_at (by omega) (by omega), Option.bind_some, q_atL (by omega) (by omega), Option.bind_some, hZ1, hR1, l0, hh]
        unfold fX7_lay_L67
        rw [e1]
        by_cases c : s - 1 ≤ x
        · rw [if_pos (by rw [q_le (by omega) (by omega)]; omega)]; exact fin
        · rw [if_neg (by rw [q_le (by omega) (by omega)]; omega), x_trees hB (by omega), Option.bind_some, q_sub (by omega), x_trees hB (by omega), Option.bind_some, Q_mul, if_neg (by rw [Q_le (by omega) (by omega)]; omega)]; exact fin
      have hC := ct_pos (s - 1 - x)
      have hCl := ct_lt (n := s - 1 - x) (by omega)
      have hwk : Wk (prs x (prs (s - 1 - x) r)) (prw x ((h - cvs ct (s - 1) x) / ct (s - 1 - x)) (prw (s - 1 - x) ((h - cvs ct (s - 1) x) % ct (s - 1 - x)) qt)) :=
        wk_put (Nat.div_lt_of_lt_mul (by rw [Nat.mul_comm]; exact x3)) (wk_put (Nat.mod_lt _ hC) hq2)
      have hpos : Pos (prs x (prs (s - 1 - x) r)) := prs_pos (prs_pos (fun x hx => h1 x (List.mem_cons_of_mem _ hx)))
      have htot : tot (prs x (prs (s - 1 - x) r)) + (i + 1) = n := by rw [prs_tot, prs_tot]; omega
      have hsame : ∀ j, j < i + 1 → upd a i (nI x) j = upd a' i (nI x) j ∧ ∃ y, y < 30 ∧ upd a i (nI x) j = nI y := by
        intro j hj
        by_cases e : j = i
        · subst e; rw [upd_s, upd_s]; exact ⟨rfl, x, by omega, rfl⟩
        · rw [upd_n e, upd_n e]; exact h8 j (by omega)
      have ih := fun S SL hS hW => ih _ _ (upd a i (nI x)) (upd a' i (nI x)) S Z' R' SL hpos htot hwk hz1 hr1 hS hW hsame
      rw [hX]
      -- the reference
      obtain ⟨pl, y, ⟨rfl, rfl⟩, hh⟩ := lpK2 (fun q => fX10_makesTree_L57 K (nI (r.length + 1)) (nI i) a' SL S q) (fun y p t => p = lN (h - cvs ct (s - 1) y) ∧ t = nI y) x (by
        rintro y p t hy ⟨rfl, rfl⟩
        have c1 := cm y hy
        have c2 := ctop y (by omega)
        refine ⟨_, _, ⟨rfl, rfl⟩, fun q g => ?_⟩
        unfold fX10_makesTree_L57
        rw [pred_nI, q_cl (a := r.length) (by omega), hS1, er y (by omega), q_cl (by omega), q_cl (by omega), if_neg (gk y (by omega)), if_neg (gk (s - 1 - y) (by omega)), hK y (by omega), hK (s - 1 - y) (by omega), Q_mul, if_neg (by rw [Q_lt (by omega) (by omega)]; omega), Q_sub (by omega), ej, show h - cvs ct (s - 1) (y + 1) = h - cvs ct (s - 1) y - ct y * ct (s - 1 - y) from by show h - (cvs ct (s - 1) y + ct y * ct (s - 1 - y)) = _; omega]) x 0 (lN (h - cvs ct (s - 1) 0)) (nI 0) FU (by omega) (FU_gt (by omega)) ⟨rfl, rfl⟩
      obtain ⟨m, hh⟩ := hh g'
      have hp := ctop x x1
      rw [show h - cvs ct (s - 1) 0 = h from rfl] at hh
      unfold fX10_makesTree_L24
      rw [List.length_cons, h0, if_neg (by rw [q_le (by omega) (by omega)]; omega), pred_nI, q_cl (by omega), if_neg g2, hW1, l0, hh]
      generalize h - cvs ct (s - 1) x = t at *
      have hK0 : ¬ lN (ct (s - 1 - x)) = (0 : Int64) := by rw [L0, Q_eq (by omega) (by omega)]; omega
      unfold fX10_makesTree_L57 fX10_makesTree_B174 fX10_makesTree_B201
      rw [pred_nI, q_cl (a := r.length) (by omega), hS1, er x x1, q_cl (a := x) (by omega), q_cl (a := s - 1 - x) (by omega), if_neg (gk x (by omega)), if_neg (gk (s - 1 - x) (by omega)), hK x (by omega), hK (s - 1 - x) (by omega), Q_mul, if_pos (by rw [Q_lt (by omega) (by omega)]; omega), q_cl (a := i) (by omega), if_neg g1, if_neg hK0, if_neg hK0, if_neg hK0, Q_rem (by omega) hC (by omega), Q_div (by omega) hC (by omega), ej, ej]
      generalize ct (s - 1 - x) = C at *
      by_cases c2 : 0 < s - 1 - x
      · have p2 : prs (s - 1 - x) r = (s - 1 - x) :: r := if_pos c2
        have w2 : prw (s - 1 - x) (t % C) qt = t % C :: qt := if_pos c2
        have t2 := TS_put (s := s - 1 - x) hS2
        have u2 := TW_put (s := s - 1 - x) (b := t % C) hW2
        rw [p2, w2] at ih
        rw [if_neg (show ¬ nI (s - 1 - x) ≤ 0 by rw [l0, q_le (by omega) (by omega)]; omega)]
        by_cases c : 0 < x
        · have p1 : prs x ((s - 1 - x) :: r) = x :: (s - 1 - x) :: r := if_pos c
          have w1 : prw x (t / C) (t % C :: qt) = t / C :: t % C :: qt := if_pos c
          have g3 : ¬ (nI (r.length + 1) < 0 ∨ 64 ≤ r.length + 1) := by rw [l0, q_lt (by omega) (by omega)]; omega
          rw [p1, w1] at ih
          rw [if_neg (show ¬ nI x ≤ 0 by rw [l0, q_le (by omega) (by omega)]; omega), q_cl (a := r.length + 1) (by omega), if_neg g3, ej]
          exact ih _ _ (TS_put (s := x) t2) (TW_put (s := x) u2)
        · have p1 : prs x ((s - 1 - x) :: r) = (s - 1 - x) :: r := if_neg c
          have w1 : prw x (t / C) (t % C :: qt) = t % C :: qt := if_neg c
          rw [p1, w1] at ih
          rw [if_pos (show nI x ≤ 0 by rw [l0, q_le (by omega) (by omega)]; omega)]
          exact ih _ _ t2 u2
      · have p2 : prs (s - 1 - x) r = r := if_neg c2
        have w2 : prw (s - 1 - x) (t % C) qt = qt := if_neg c2
        rw [p2, w2] at ih
        rw [if_pos (show nI (s - 1 - x) ≤ 0 by rw [l0, q_le (by omega) (by omega)]; omega)]
        by_cases c : 0 < x
        · have p1 : prs x r = x :: r := if_pos c
          have w1 : prw x (t / C) qt = t / C :: qt := if_pos c
          rw [p1, w1] at ih
          rw [if_neg (show ¬ nI x ≤ 0 by rw [l0, q_le (by omega) (by omega)]; omega), if_neg g2]
          exact ih _ _ (TS_put (s := x) hS2) (TW_put (s := x) hW2)
        · have p1 : prs x r = r := if_neg c
          have w1 : prw x (t / C) qt = qt := if_neg c
          rw [p1, w1] at ih
          rw [if_pos (show nI x ≤ 0 by rw [l0, q_le (by omega) (by omega)]; omega)]
          exact ih _ _ hS2 hW2
theorem lay3 {n r : Nat} (h1n : 1 ≤ n) (hn : n ≤ 30) {B K : Nat → Int64} (hB : TK B) (hK : TK K) {L Z S of : Nat → Int32} {R SL : Nat → Int64} (h0 : of 0 = nI n) (hr : r < ct n) (a a' : Nat → Int32) : ∃ w w' R' Z' SL' S', fX7_lay a (nI n) L R Z B (lN r) = some (w, L, R', Z') ∧ fX10_makesTree a' SL S K of (lN r) = some (w', SL', S') ∧ Same n 30 w w' := by
  unfold fX7_lay fX10_makesTree
  rw [l0, q_set (by omega) (by omega), Option.bind_some, q_setL (by omega) (by omega), Option.bind_some, l1, h0]
  exact lay3_aux hn hB hK h0 n 0 FU FU [n] [r] a a' (upd S 0 (nI n)) (upd Z 0 (nI n)) (vp_updL R 0 (lN r)) (vp_updL SL 0 (lN r)) (by omega) (FU_gt (by omega)) (FU_gt (by omega)) (fun x hx => by rcases List.mem_cons.mp hx with e | e; omega; cases e) (by show n + 0 + 0 = n; omega) ⟨hr, trivial⟩ ⟨by rw [upd_s], trivial⟩ ⟨by rw [updL_s]; rfl, trivial⟩ ⟨by show upd S 0 (nI n) 0 = nI n; rw [upd_s], trivial⟩ ⟨by show vp_updL SL 0 (lN r) 0 = lN r; rw [updL_s], trivial⟩ (fun j hj => by omega)
