/-! ===== pure part 6: subsets, objects by their ranks, complements ===== -/
/-- two rows of k places, alike there, with numbers below N in them -/
def Same (k N : Nat) (f g : Nat → Int32) : Prop := ∀ j, j < k → f j = g j ∧ ∃ x, x < N ∧ f j = nI x
def lexW (n k : Nat) : Nat → Nat → Nat → (Nat → Int32) → Nat → Int32
  | 0, _, _, a => a
  | d + 1, nx, r, a => if k ≤ nx then a else if cb d (k - 1 - nx) ≤ r then lexW n k d nx (r - cb d (k - 1 - nx)) a else lexW n k d (nx + 1) r (upd a nx (nI (n - (d + 1))))
theorem lexW_k {n k d nx r : Nat} {a : Nat → Int32} (h : k ≤ nx) : lexW n k d nx r a = a := by
  cases d with
  | zero => rfl
  | succ d => unfold lexW; rw [if_pos h]
theorem lexW_s (n k d nx r : Nat) (a : Nat → Int32) : lexW n k (d + 1) nx r a = if k ≤ nx then a else if cb d (k - 1 - nx) ≤ r then lexW n k d nx (r - cb d (k - 1 - nx)) a else lexW n k d (nx + 1) r (upd a nx (nI (n - (d + 1)))) := rfl
theorem cb_split {k nx d : Nat} (h : nx < k) : cb (d + 1) (k - nx) = cb d (k - 1 - nx) + cb d (k - nx) := by
  obtain ⟨t, ht⟩ : ∃ t, k - nx = t + 1 := ⟨k - nx - 1, by omega⟩
  rw [ht, cb_s, show k - 1 - nx = t by omega]
theorem lexW_same {n k : Nat} : ∀ d nx r (a a' : Nat → Int32), d ≤ n → nx ≤ k → r < cb d (k - nx) → (∀ j, j < nx → a j = a' j ∧ ∃ x, x < n ∧ a j = nI x) → Same k n (lexW n k d nx r a) (lexW n k d nx r a') := by
  intro d
  induction d with
  | zero =>
    intro nx r a a' hd hx hr h j hj
    by_cases q : nx = k
    · subst q; exact h j hj
    · rw [cb_out (by omega)] at hr; omega
  | succ d ih =>
    intro nx r a a' hd hx hr h
    rw [lexW_s, lexW_s]
    by_cases c : k ≤ nx
    · rw [if_pos c, if_pos c]; exact fun j hj => h j (by omega)
    · rw [if_neg c, if_neg c]
      have hs := cb_split (k := k) (nx := nx) (d := d) (by omega)
      by_cases c2 : cb d (k - 1 - nx) ≤ r
      · rw [if_pos c2, if_pos c2]; exact ih nx _ a a' (by omega) hx (by omega) h
      · rw [if_neg c2, if_neg c2]
        refine ih (nx + 1) r _ _ (by omega) (by omega) (by rw [show k - (nx + 1) = k - 1 - nx by omega]; omega) (fun j hj => ?_)
        by_cases q : j = nx
        · subst q; rw [upd_s, upd_s]; exact ⟨rfl, _, by omega, rfl⟩
        · rw [upd_n q, upd_n q]; exact h j (by omega)
theorem x_lexW {n k : Nat} (hk : k ≤ n) (hn : n ≤ 60) {B : Nat → Int64} (hB : TB B) : ∀ d nx r a f, d ≤ n → nx ≤ k → d < f → r ≤ 1152921504606846976 → rk_it4 (fX6_layLexicographic_L9 (nI k) (nI n) B) f (lN r) (nI nx) (nI (n - d)) a = some (lexW n k d nx r a) := by
  intro d
  induction d with
  | zero =>
    intro nx r a f hd hx hf hr
    obtain ⟨f, rfl, -⟩ := suc_of hf
    rw [it4_s]; unfold fX6_layLexicographic_L9
    rw [if_pos (by rw [q_le (by omega) (by omega)]; omega)]; rfl
  | succ d ih =>
    intro nx r a f hd hx hf hr
    obtain ⟨f, rfl, hf⟩ := suc_of hf
    have hcb := cb_lt (n := d) (k := k - 1 - nx) (by omega)
    have e : ∀ g : Int64 → Int32 → Int32 → (Nat → Int32) → Option (Nat → Int32), fX6_layLexicographic_L9 (nI k) (nI n) B g (lN r) (nI nx) (nI (n - (d + 1))) a = if k ≤ nx then some a else if cb d (k - 1 - nx) ≤ r then g (lN (r - cb d (k - 1 - nx))) (nI nx) (nI (n - d)) a else g (lN r) (nI (nx + 1)) (nI (n - d)) (upd a nx (nI (n - (d + 1)))) := by
      intro g
      unfold fX6_layLexicographic_L9 fX6_layLexicographic_B81
      rw [if_neg (by rw [q_le (by omega) (by omega)]; omega)]
      by_cases c : k ≤ nx
      · rw [if_pos (by rw [q_le (by omega) (by omega)]; exact c), if_pos c]
      · rw [if_neg (by rw [q_le (by omega) (by omega)]; exact c), if_neg c, l1, q_sub (by omega), q_sub (by omega), q_sub (by omega), q_sub (by omega), q_bin hB (by omega) (by omega), Option.bind_some, show n - 1 - (n - (d + 1)) = d by omega, q_set (by omega) (by omega), Option.bind_some, q_add, q_add, show n - (d + 1) + 1 = n - d by omega]
        by_cases c2 : cb d (k - 1 - nx) ≤ r
        · rw [if_pos (by rw [Q_le (by omega) (by omega)]; exact c2), if_pos c2, Q_sub c2]
        · rw [if_neg (by rw [Q_le (by omega) (by omega)]; exact c2), if_neg c2]
    rw [it4_s, e, lexW_s]
    by_cases c : k ≤ nx
    · rw [if_pos c, if_pos c]
    · rw [if_neg c, if_neg c]
      by_cases c2 : cb d (k - 1 - nx) ≤ r
      · rw [if_pos c2, if_pos c2]; exact ih nx _ a f (by omega) hx (by omega) (by omega)
      · rw [if_neg c2, if_neg c2]; exact ih (nx + 1) r _ f (by omega) (by omega) (by omega) hr
theorem m_lexW {n k : Nat} (hk : k ≤ n) (hn : n ≤ 60) {T : Nat → Int64} (hT : TC T) {of : Nat → Int32} (h0 : of 0 = nI n) (h1 : of 1 = nI k) : ∀ d i r a f, d ≤ n → i ≤ k → k - i < f → r < cb d (k - i) → rk_it4 (fX10_makesSubset_L33 T of) f (lN r) (nI (n - d)) (nI i) a = some (lexW n k d i r a) := by
  -- the inner search, to the place where the outer loop goes on
  have inner : ∀ (g : Int64 → Int32 → Int32 → (Nat → Int32) → Option (Nat → Int32)) a i, i < k → ∀ d r f, d ≤ n → d < f → r < cb d (k - i) → ∃ d' r', d' < d ∧ r' < cb d' (k - (i + 1)) ∧ lexW n k d i r a = lexW n k d' (i + 1) r' (upd a i (nI (n - (d' + 1)))) ∧ rk_it2 (fX10_makesSubset_L40 T of (nI i) a g) f (lN r) (nI (n - d)) = g (lN r') (nI (n - d')) (nI (i + 1)) (upd a i (nI (n - (d' + 1)))) := by
    intro g a i hi d
    induction d with
    | zero => intro r f hd hf hr; rw [cb_out (by omega)] at hr; omega
    | succ d ih =>
      intro r f hd hf hr
      obtain ⟨f, rfl, hf⟩ := suc_of hf
      have hs := cb_split (k := k) (nx := i) (d := d) hi
      have hcb := cb_lt (n := d) (k := k - 1 - i) (by omega)
      have hcb2 := cb_lt (n := d + 1) (k := k - i) (by omega)
      have e : ∀ w : Int64 → Int32 → Option (Nat → Int32), fX10_makesSubset_L40 T of (nI i) a g w (lN r) (nI (n - (d + 1))) = if cb d (k - 1 - i) ≤ r then w (lN (r - cb d (k - 1 - i))) (nI (n - d)) else g (lN r) (nI (n - d)) (nI (i + 1)) (upd a i (nI (n - (d + 1)))) := by
        intro w
        unfold fX10_makesSubset_L40
        rw [h0, h1, l1, q_sub (by omega), q_sub (by omega), q_sub (by omega), q_sub (by omega), q_cho hT (by omega) (by omega), Option.bind_some, show n - 1 - (n - (d + 1)) = d by omega, q_add, q_add, show n - (d + 1) + 1 = n - d by omega]
        by_cases c2 : cb d (k - 1 - i) ≤ r
        · rw [if_neg (by rw [Q_lt (by omega) (by omega)]; omega), if_pos c2, Option.bind_some, Q_sub c2]
        · rw [if_pos (by rw [Q_lt (by omega) (by omega)]; omega), if_neg c2, q_cl (by omega), if_neg (by rw [l0, q_lt (by omega) (by omega)]; omega)]
      rw [it2_s, e, lexW_s, if_neg (by omega)]
      by_cases c2 : cb d (k - 1 - i) ≤ r
      · rw [if_pos c2, if_pos c2]
        obtain ⟨d', r', g1, g2, g3, g4⟩ := ih (r - cb d (k - 1 - i)) f (by omega) (by omega) (by omega)
        exact ⟨d', r', by omega, g2, g3, g4⟩
      · rw [if_neg c2, if_neg c2]
        exact ⟨d, r, by omega, by rw [show k - (i + 1) = k - 1 - i by omega]; omega, rfl, rfl⟩
  have outer : ∀ t d i r a f, i + t = k → d ≤ n → t < f → r < cb d (k - i) → rk_it4 (fX10_makesSubset_L33 T of) f (lN r) (nI (n - d)) (nI i) a = some (lexW n k d i r a) := by
    intro t
    induction t with
    | zero =>
      intro d i r a f hi hd hf hr
      obtain ⟨f, rfl, -⟩ := suc_of hf
      rw [it4_s, lexW_k (by omega)]; unfold fX10_makesSubset_L33
      rw [h1, if_pos (by rw [q_le (by omega) (by omega)]; omega)]
    | succ t ih =>
      intro d i r a f hi hd hf hr
      obtain ⟨f, rfl, hf⟩ := suc_of hf
      obtain ⟨d', r', g1, g2, g3, g4⟩ := inner (rk_it4 (fX10_makesSubset_L33 T of) f) a i (by omega) d r FU hd (FU_gt (by omega)) hr
      have st : fX10_makesSubset_L33 T of (rk_it4 (fX10_makesSubset_L33 T of) f) (lN r) (nI (n - d)) (nI i) a = rk_it2 (fX10_makesSubset_L40 T of (nI i) a (rk_it4 (fX10_makesSubset_L33 T of) f)) FU (lN r) (nI (n - d)) := by
        generalize rk_it4 (fX10_makesSubset_L33 T of) f = w
        unfold fX10_makesSubset_L33
        rw [h1, if_neg (by rw [q_le (by omega) (by omega)]; omega)]
      rw [it4_s, st, g4, g3]
      exact ih d' (i + 1) r' _ f (by omega) (by omega) (by omega) g2
  intro d i r a f hd hi hf hr
  exact outer (k - i) d i r a f (by omega) hd hf hr
/-- the other two orders: e is one more than the greatest element that may come, i how many come -/
def colW (o : Nat) : Nat → Nat → Nat → (Nat → Int32) → Nat → Int32
  | 0, _, _, a => a
  | _ + 1, 0, _, a => a
  | e + 1, i + 1, r, a => if r < cb e (i + 1) then colW o e (i + 1) r a else colW o e i (if o = 2 then cb (e + 1) (i + 1) - 1 - r else r - cb e (i + 1)) (upd a i (nI e))
theorem colW_0 (o e r : Nat) (a : Nat → Int32) : colW o e 0 r a = a := by cases e <;> rfl
theorem colW_s (o e i r : Nat) (a : Nat → Int32) : colW o (e + 1) (i + 1) r a = if r < cb e (i + 1) then colW o e (i + 1) r a else colW o e i (if o = 2 then cb (e + 1) (i + 1) - 1 - r else r - cb e (i + 1)) (upd a i (nI e)) := rfl
theorem colW_same {o k n : Nat} : ∀ e i r (a a' : Nat → Int32), e ≤ n → i ≤ k → r < cb e i → (∀ j, i ≤ j → j < k → a j = a' j ∧ ∃ x, x < n ∧ a j = nI x) → Same k n (colW o e i r a) (colW o e i r a') := by
  intro e
  induction e with
  | zero =>
    intro i r a a' he hi hr h j hj
    by_cases q : i = 0
    · subst q; exact h j (by omega) hj
    · rw [cb_out (by omega)] at hr; omega
  | succ e ih =>
    intro i r a a' he hi hr h
    cases i with
    | zero => rw [colW_0, colW_0]; exact fun j hj => h j (by omega) hj
    | succ i =>
      rw [colW_s, colW_s]
      have hs := cb_s e i
      by_cases c : r < cb e (i + 1)
      · rw [if_pos c, if_pos c]; exact ih (i + 1) r a a' (by omega) hi c h
      · rw [if_neg c, if_neg c]
        refine ih i _ _ _ (by omega) (by omega) (by split <;> omega) (fun j h1 h2 => ?_)
        by_cases q : j = i
        · subst q; rw [upd_s, upd_s]; exact ⟨rfl, _, by omega, rfl⟩
        · rw [upd_n q, upd_n q]; exact h j (by omega) h2
theorem nI_m1 : (-1 : Int32) < 0 := by decide
theorem pred_nI (i : Nat) : nI (i + 1) + (-1) = nI i := pk_m1 i
theorem z_m1 : nI 0 + (-1) = (-1 : Int32) := by decide
theorem x_colW {n o : Nat} (hn : n ≤ 60) (ho : o ≠ 0) (ho2 : o ≤ 2) {B : Nat → Int64} (hB : TB B) {L Z : Nat → Int32} {R : Nat → Int64} : ∀ e i r a f, e ≤ n → i ≤ 60 → e < f → r ≤ 1152921504606846976 → r < cb e i → rk_it4 (fX6_lay_L35 (nI o) L R Z B) f (lN r) (nI i + (-1)) (nI e + (-1)) a = some (colW o e i r a, L, R, Z) := by
  intro e
  induction e with
  | zero =>
    intro i r a f he hi hf hr hlt
    obtain ⟨f, rfl, -⟩ := suc_of hf
    rw [it4_s, z_m1]; unfold fX6_lay_L35
    rw [if_pos nI_m1]; rfl
  | succ e ih =>
    intro i r a f he hi hf hr hlt
    obtain ⟨f, rfl, hf⟩ := suc_of hf
    cases i with
    | zero =>
      rw [it4_s, z_m1, pred_nI, colW_0]; unfold fX6_lay_L35
      rw [if_neg (by rw [l0, q_lt (by omega) (by omega)]; omega), if_pos nI_m1]
    | succ i =>
      have hcb := cb_lt (n := e) (k := i + 1) (by omega)
      have hcb2 := cb_lt (n := e + 1) (k := i + 1) (by omega)
      have hs := cb_s e i
      have st : ∀ g : Int64 → Int32 → Int32 → (Nat → Int32) → Option ((Nat → Int32) × (Nat → Int32) × (Nat → Int64) × (Nat → Int32)), fX6_lay_L35 (nI o) L R Z B g (lN r) (nI i) (nI e) a = if r < cb e (i + 1) then g (lN r) (nI (i + 1) + (-1)) (nI e + (-1)) a else g (lN (if o = 2 then cb (e + 1) (i + 1) - 1 - r else r - cb e (i + 1))) (nI i + (-1)) (nI e + (-1)) (upd a i (nI e)) := by
        intro g
        rw [pred_nI]
        unfold fX6_lay_L35 fX6_lay_B108 fX6_lay_B113
        generalize (-1 : Int32) = mo
        rw [if_neg (by rw [l0, q_lt (by omega) (by omega)]; omega), if_neg (by rw [l0, q_lt (by omega) (by omega)]; omega), l1, q_add, q_bin hB (by omega) (by omega), Option.bind_some]
        by_cases c : r < cb e (i + 1)
        · rw [if_pos (by rw [Q_lt (by omega) (by omega)]; exact c), if_pos c]
        · rw [if_neg (by rw [Q_lt (by omega) (by omega)]; exact c), if_neg c, q_set (by omega) (by omega), Option.bind_some, l2]
          by_cases c2 : o = 2
          · rw [if_neg (by rw [q_eq (by omega) (by omega)]; simp [c2]), q_add, q_bin hB (by omega) (by omega), Option.bind_some, if_pos c2, L1, Q_sub (by omega), Q_sub (by omega)]
          · rw [if_pos (by rw [q_eq (by omega) (by omega)]; exact c2), if_neg c2, Q_sub (by omega)]
      rw [it4_s, pred_nI, pred_nI, st, colW_s]
      by_cases c : r < cb e (i + 1)
      · rw [if_pos c, if_pos c]; exact ih (i + 1) r a f (by omega) hi (by omega) hr c
      · rw [if_neg c, if_neg c]
        exact ih i _ _ f (by omega) (by omega) (by omega) (by split <;> omega) (by split <;> omega)
theorem colW_find {o : Nat} : ∀ e i r (a : Nat → Int32), r < cb e (i + 1) → ∃ v, v < e ∧ cb v (i + 1) ≤ r ∧ r < cb (v + 1) (i + 1) ∧ colW o e (i + 1) r a = colW o v i (if o = 2 then cb (v + 1) (i + 1) - 1 - r else r - cb v (i + 1)) (upd a i (nI v)) := by
  intro e
  induction e with
  | zero => intro i r a h; rw [cb_out (by omega)] at h; omega
  | succ e ih =>
    intro i r a h
    rw [colW_s]
    by_cases c : r < cb e (i + 1)
    · rw [if_pos c]
      obtain ⟨v, h1, h2, h3, h4⟩ := ih i r a c
      exact ⟨v, by omega, h2, h3, h4⟩
    · rw [if_neg c]; exact ⟨e, by omega, by omega, h, rfl⟩
theorem m_colW {n o : Nat} (hn : n ≤ 60) (ho : o ≠ 0) (ho2 : o ≤ 2) {T : Nat → Int64} (hT : TC T) {of : Nat → Int32} (h2 : of 2 = nI o) : ∀ i e r a f, e ≤ n → i ≤ n → i < f → r < cb e i → rk_it3 (fX10_makesSubset_L114 T of) f (lN r) (nI i) a = some (colW o e i r a) := by
  intro i
  induction i with
  | zero =>
    intro e r a f he hi hf hr
    obtain ⟨f, rfl, -⟩ := suc_of hf
    rw [it3_s, colW_0]; unfold fX10_makesSubset_L114
    rw [if_pos (by rw [l0, q_le (by omega) (by omega)]; omega)]
  | succ i ih =>
    intro e r a f he hi hf hr
    obtain ⟨f, rfl, hf⟩ := suc_of hf
    obtain ⟨v, v1, v2, v3, v4⟩ := colW_find (o := o) e i r a hr
    have hcb := cb_lt (n := v + 1) (k := i + 1) (by omega)
    have hcb1 := cb_lt (n := v) (k := i + 1) (by omega)
    have hs := cb_s v i
    have vi : i ≤ v := by
      rcases Nat.lt_or_ge v i with q | q
      · rw [cb_out (n := v + 1) (k := i + 1) (by omega)] at v3; omega
      · exact q
    have inner : ∀ (g : Int64 → Int32 → (Nat → Int32) → Option (Nat → Int32)) d u f, u + d = v → i ≤ u → d < f → rk_it1 (fX10_makesSubset_L125 T of (lN r) (nI (i + 1)) a g) f (nI u) = g (lN (if o = 2 then cb (v + 1) (i + 1) - 1 - r else r - cb v (i + 1))) (nI i) (upd a i (nI v)) := by
      intro g d
      induction d with
      | zero =>
        intro u f hu hui hf
        obtain ⟨f, rfl, -⟩ := suc_of hf
        obtain rfl : u = v := by omega
        rw [it1_s]; unfold fX10_makesSubset_L125 fX10_makesSubset_B197
        rw [pred_nI]
        rw [l1, q_add, q_cho hT (by omega) (by omega), Option.bind_some, if_pos (by rw [Q_lt (by omega) (by omega)]; exact v3), q_sub (by omega), Nat.add_sub_cancel, q_cl (by omega), if_neg (by rw [l0, q_lt (by omega) (by omega)]; omega), h2]
        by_cases c : o = 2
        · rw [if_pos (by rw [q_eq (by omega) (by omega)]; omega), Option.bind_some, L1, Q_sub (by omega), Q_sub (by omega), if_pos c]
        · rw [if_neg (by rw [q_eq (by omega) (by omega)]; omega), q_cho hT (by omega) (by omega), Option.bind_some, Q_sub (by omega), if_neg c]
      | succ d ih2 =>
        intro u f hu hui hf
        obtain ⟨f, rfl, hf⟩ := suc_of hf
        have hm := cb_mono (n := u + 1) (m := v) (k := i + 1) (by omega)
        have st : fX10_makesSubset_L125 T of (lN r) (nI (i + 1)) a g (rk_it1 (fX10_makesSubset_L125 T of (lN r) (nI (i + 1)) a g) f) (nI u) = rk_it1 (fX10_makesSubset_L125 T of (lN r) (nI (i + 1)) a g) f (nI (u + 1)) := by
          generalize rk_it1 (fX10_makesSubset_L125 T of (lN r) (nI (i + 1)) a g) f = w
          unfold fX10_makesSubset_L125
          rw [l1, q_add, q_cho hT (by omega) (by omega), Option.bind_some, if_neg (by rw [Q_lt (by omega) (by omega)]; omega)]
        rw [it1_s, st]
        exact ih2 (u + 1) f (by omega) (by omega) (by omega)
    have st : fX10_makesSubset_L114 T of (rk_it3 (fX10_makesSubset_L114 T of) f) (lN r) (nI (i + 1)) a = rk_it1 (fX10_makesSubset_L125 T of (lN r) (nI (i + 1)) a (rk_it3 (fX10_makesSubset_L114 T of) f)) FU (nI i) := by
      generalize rk_it3 (fX10_makesSubset_L114 T of) f = w
      unfold fX10_makesSubset_L114
      rw [if_neg (by rw [l0, q_le (by omega) (by omega)]; omega), l1, q_sub (by omega), Nat.add_sub_cancel]
    rw [it3_s, st, inner _ (v - i) i FU (by omega) (Nat.le_refl _) (FU_gt (by omega)), v4]
    exact ih v _ _ f (by omega) (by omega) (by omega) (by split <;> omega)
/-- objects of subsets by their ranks -/
theorem lay0 {n k o r : Nat} (hk : k ≤ n) (hn : n ≤ 60) (ho : o ≤ 2) {B T : Nat → Int64} (hB : TB B) (hT : TC T) {L Z of : Nat → Int32} {R : Nat → Int64} (hr : r < cb n k) (h0 : of 0 = nI n) (h1 : of 1 = nI k) (h2 : of 2 = nI o) (a a' : Nat → Int32) : ∃ w w', fX6_lay a (nI k) (nI n) (nI o) L R Z B (lN r) = some (w, L, R, Z) ∧ fX10_makesSubset a' T of (lN r) = some w' ∧ Same k n w w' := by
  have hcb := cb_lt (n := n) (k := k) hn
  by_cases c : o = 0
  · subst c
    refine ⟨lexW n k n 0 r a, lexW n k n 0 r a', ?_, ?_, lexW_same n 0 r a a' (Nat.le_refl _) (by omega) (by rw [Nat.sub_zero]; exact hr) (fun j hj => by omega)⟩
    · unfold fX6_lay fX6_layLexicographic
      rw [if_neg (by simp [nI_0])]
      have := x_lexW hk hn hB n 0 r a FU (Nat.le_refl _) (by omega) (FU_gt (by omega)) (by omega)
      rw [Nat.sub_self] at this
      rw [show (0 : Int32) = nI 0 from rfl, this]; rfl
    · unfold fX10_makesSubset
      rw [h2, if_neg (by simp [nI_0])]
      have := m_lexW hk hn hT h0 h1 n 0 r a' FU (Nat.le_refl _) (by omega) (FU_gt (by omega)) (by rw [Nat.sub_zero]; exact hr)
      rw [Nat.sub_self] at this
      exact this
  · refine ⟨colW o n k r a, colW o n k r a', ?_, ?_, colW_same n k r a a' (Nat.le_refl _) (Nat.le_refl _) hr (fun j h1 h2 => by omega)⟩
    · unfold fX6_lay
      rw [if_pos (by rw [l0, q_eq (by omega) (by omega)]; exact c)]
      have := x_colW hn c ho hB (L := L) (Z := Z) (R := R) n k r a FU (Nat.le_refl _) (by omega) (FU_gt (by omega)) (by omega) hr
      rw [show nI k - (1 : Int32) = nI k + (-1) from Int32.sub_eq_add_neg _ _, show nI n - (1 : Int32) = nI n + (-1) from Int32.sub_eq_add_neg _ _]
      exact this
    · unfold fX10_makesSubset
      rw [h2, if_pos (by rw [l0, q_eq (by omega) (by omega)]; exact c), h1]
      exact m_colW hn c ho hT h2 k n r a' FU (Nat.le_refl _) hk (FU_gt (by omega)) hr

-- complements
def cpW (n k : Nat) (v : Nat → Nat) : Nat → Nat → Nat → (Nat → Int32) → Nat → Int32
  | 0, _, _, a => a
  | d + 1, nx, w, a => if nx < k ∧ v nx = n - (d + 1) then cpW n k v d (nx + 1) w a else cpW n k v d nx (w + 1) (upd a w (nI (n - (d + 1))))
theorem cpW_s (n k : Nat) (v : Nat → Nat) (d nx w : Nat) (a : Nat → Int32) : cpW n k v (d + 1) nx w a = if nx < k ∧ v nx = n - (d + 1) then cpW n k v d (nx + 1) w a else cpW n k v d nx (w + 1) (upd a w (nI (n - (d + 1)))) := rfl
theorem cpW_spec {n k : Nat} {v : Nat → Nat} (hk : k ≤ n) (hv : ∀ i, i < k → v i < n) (hm : ∀ i j, j < i → i < k → v j < v i) : ∀ d nx w (a a' : Nat → Int32), d ≤ n → nx ≤ k → nx + w = n - d → (nx < k → n - d ≤ v nx) → (∀ j, j < nx → v j < n - d) → (∀ j, j < w → a j = a' j ∧ ∃ x, x < n - d ∧ a j = nI x ∧ ∀ j', j' < j → ∃ y, y < x ∧ a j' = nI y) → ∀ j, j < n - k → (cpW n k v d nx w a) j = (cpW n k v d nx w a') j ∧ ∃ x, x < n ∧ (cpW n k v d nx w a) j = nI x ∧ ∀ j', j' < j → ∃ y, y < x ∧ (cpW n k v d nx w a) j' = nI y := by
  intro d
  induction d with
  | zero =>
    intro nx w a a' hd hx hs h1 h2 h3 j hj
    have q : nx = k := by
      rcases Nat.lt_or_ge nx k with q | q
      · have := h1 q; have := hv nx q; omega
      · omega
    exact h3 j (by omega)
  | succ d ih =>
    intro nx w a a' hd hx hs h1 h2 h3
    rw [cpW_s, cpW_s]
    by_cases c : nx < k ∧ v nx = n - (d + 1)
    · rw [if_pos c, if_pos c]
      refine ih (nx + 1) w a a' (by omega) (by omega) (by omega) (fun h => by have := hm (nx + 1) nx (by omega) h; omega) (fun j hj => ?_) (fun j hj => ?_)
      · by_cases q : j = nx
        · subst q; omega
        · have := h2 j (by omega); omega
      · obtain ⟨g1, x, g2, g3⟩ := h3 j hj
        exact ⟨g1, x, by omega, g3⟩
    · rw [if_neg c, if_neg c]
      refine ih nx (w + 1) _ _ (by omega) hx (by omega) (fun h => by have := h1 h; omega) (fun j hj => by have := h2 j hj; omega) (fun j hj => ?_)
      by_cases q : j = w
      · subst q
        rw [upd_s, upd_s]
        refine ⟨rfl, _, by omega, rfl, fun j' hj' => ?_⟩
        obtain ⟨-, x, g2, g3, -⟩ := h3 j' hj'
        exact ⟨x, by omega, by rw [upd_n (by omega)]; exact g3⟩
      · rw [upd_n q, upd_n q]
        obtain ⟨g1, x, g2, g3, g4⟩ := h3 j (by omega)
        refine ⟨g1, x, by omega, g3, fun j' hj' => ?_⟩
        obtain ⟨y, g5, g6⟩ := g4 j' hj'
        exact ⟨y, g5, by rw [upd_n (by omega)]; exact g6⟩
theorem x_cpW {n k : Nat} (hk : k ≤ n) (hn : n ≤ 60) {b S1 S2 : Nat → Int32} {v : Nat → Nat} (hb : ∀ i, i < k → b i = nI (v i)) (hv : ∀ i, i < k → v i < n) : ∀ d nx w a f, d ≤ n → nx ≤ k → nx + w = n - d → d < f → rk_it4 (fX6_turn_L9 (nI k) (nI n) b S1 S2) f (nI nx) (nI w) (nI (n - d)) a = some (cpW n k v d nx w a, S1, S2) := by
  intro d
  induction d with
  | zero =>
    intro nx w a f hd hx hs hf
    obtain ⟨f, rfl, -⟩ := suc_of hf
    rw [it4_s]; unfold fX6_turn_L9
    rw [if_pos (by rw [q_le (by omega) (by omega)]; omega)]; rfl
  | succ d ih =>
    intro nx w a f hd hx hs hf
    obtain ⟨f, rfl, hf⟩ := suc_of hf
    have e : ∀ g, fX6_turn_L9 (nI k) (nI n) b S1 S2 g (nI nx) (nI w) (nI (n - (d + 1))) a = if nx < k ∧ v nx = n - (d + 1) then g (nI (nx + 1)) (nI w) (nI (n - d)) a else g (nI nx) (nI (w + 1)) (nI (n - d)) (upd a w (nI (n - (d + 1)))) := by
      intro g
      unfold fX6_turn_L9 fX6_turn_B44 fX6_turn_B55
      rw [if_neg (by rw [q_le (by omega) (by omega)]; omega), q_set (by omega) (by omega), Option.bind_some, l1, q_add, q_add, q_add, show n - (d + 1) + 1 = n - d by omega]
      by_cases c : k ≤ nx
      · rw [if_pos (by rw [q_le (by omega) (by omega)]; exact c), if_neg (by omega)]
      · have hvn := hv nx (by omega)
        rw [if_neg (by rw [q_le (by omega) (by omega)]; exact c), q_at (by omega) (by omega), Option.bind_some, hb nx (by omega)]
        by_cases c2 : v nx = n - (d + 1)
        · rw [if_neg (by rw [q_eq (by omega) (by omega)]; simp [c2]), if_pos ⟨by omega, c2⟩]
        · rw [if_pos (by rw [q_eq (by omega) (by omega)]; exact c2), if_neg (fun z => c2 z.2)]
    rw [it4_s, e, cpW_s]
    by_cases c : nx < k ∧ v nx = n - (d + 1)
    · rw [if_pos c, if_pos c]; exact ih (nx + 1) w a f (by omega) (by omega) (by omega) (by omega)
    · rw [if_neg c, if_neg c]; exact ih nx (w + 1) _ f (by omega) hx (by omega) (by omega)
theorem m_cpW {n k : Nat} (hk : k ≤ n) (hn : n ≤ 60) {b of : Nat → Int32} {nw : Int32} (h0 : of 0 = nI n) (h1 : of 1 = nI k) {v : Nat → Nat} (hb : ∀ i, i < k → b i = nI (v i)) (hv : ∀ i, i < k → v i < n) : ∀ d nx w a f, d ≤ n → nx ≤ k → nx + w = n - d → d < f → rk_it4 (fX10_complements_L22 nw b of) f (nI w) (nI nx) (nI (n - d)) a = ((fX10_stores nw b (cpW n k v d nx w a) (upd of 1 ((of 0) - (of 1)))).bind fun r_79 => (if ¬ r_79.1 = 0 then fX10_complements_B96 of (cpW n k v d nx w a) r_79 else (if (of 1) = ((of 0) - (of 1)) then (some ((0 : Int32), r_79.2, (cpW n k v d nx w a), (upd of 1 ((of 0) - (of 1))))) else fX10_complements_B96 of (cpW n k v d nx w a) r_79))) := by
  intro d
  induction d with
  | zero =>
    intro nx w a f hd hx hs hf
    obtain ⟨f, rfl, -⟩ := suc_of hf
    rw [it4_s]; unfold fX10_complements_L22
    rw [if_pos (by rw [h0, q_le (by omega) (by omega)]; omega)]; rfl
  | succ d ih =>
    intro nx w a f hd hx hs hf
    obtain ⟨f, rfl, hf⟩ := suc_of hf
    have e : ∀ g, fX10_complements_L22 nw b of g (nI w) (nI nx) (nI (n - (d + 1))) a = if nx < k ∧ v nx = n - (d + 1) then g (nI w) (nI (nx + 1)) (nI (n - d)) a else g (nI (w + 1)) (nI nx) (nI (n - d)) (upd a w (nI (n - (d + 1)))) := by
      intro g
      unfold fX10_complements_L22 fX10_complements_B52 fX10_complements_B63
      rw [if_neg (by rw [h0, q_le (by omega) (by omega)]; omega), q_cl (by omega), q_cl (by omega), if_neg (c := nI w < 0 ∨ 60 ≤ w) (by rw [l0, q_lt (by omega) (by omega)]; omega), l1, q_add, q_add, q_add, show n - (d + 1) + 1 = n - d by omega]
      by_cases c : k ≤ nx
      · rw [if_pos (by rw [h1, q_le (by omega) (by omega)]; exact c), if_neg (by omega)]
      · have hvn := hv nx (by omega)
        rw [if_neg (by rw [h1, q_le (by omega) (by omega)]; exact c), if_neg (by rw [l0, q_lt (by omega) (by omega)]; omega), hb nx (by omega)]
        by_cases c2 : v nx = n - (d + 1)
        · rw [if_neg (by rw [q_eq (by omega) (by omega)]; simp [c2]), if_pos ⟨by omega, c2⟩]
        · rw [if_pos (by rw [q_eq (by omega) (by omega)]; exact c2), if_neg (fun z => c2 z.2)]
    rw [it4_s, e, cpW_s]
    by_cases c : nx < k ∧ v nx = n - (d + 1)
    · rw [if_pos c, if_pos c]; exact ih (nx + 1) w a f (by omega) (by omega) (by omega) (by omega)
    · rw [if_neg c, if_neg c]; exact ih nx (w + 1) _ f (by omega) hx (by omega) (by omega)
