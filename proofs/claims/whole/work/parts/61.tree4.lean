/-! ===== pure part 31: trees, ranked ===== -/
def dr (s : Nat) (R : List Nat) : List Nat := if 0 < s then R.tail else R
def tpp (s : Nat) (R : List Nat) : Nat := if 0 < s then hd R else 0
def prw (s b : Nat) (l : List Nat) : List Nat := if 0 < s then b :: l else l
def nd (s x : Nat) (R : List Nat) : List Nat := (cvs ct (s - 1) x + tpp x R * ct (s - 1 - x) + tpp (s - 1 - x) (dr x R)) :: dr (s - 1 - x) (dr x R)
/-- the ranks of the subtrees that wait, d nodes before the end -/
def rr (n : Nat) (v : Nat → Nat) : Nat → List Nat
  | 0 => []
  | d + 1 => nd (hd (ts n v (n - (d + 1)))) (v (n - (d + 1))) (rr n v d)
def Wk : List Nat → List Nat → Prop
  | [], _ => True
  | s :: ss, q => hd q < ct s ∧ Wk ss q.tail
def XR (Z : Nat → Int64) : Nat → List Nat → List Nat → Prop
  | _, [], _ => True
  | i, s :: ss, q => Z i = lN (hd q) ∧ XR Z (i + s) ss q.tail
def TW (S : Nat → Int64) : List Nat → List Nat → Prop
  | [], _ => True
  | s :: r, w => S r.length = lN (hd w) ∧ TW S r w.tail
def dot : List Nat → List Nat → List Nat → Nat
  | [], _, _ => 0
  | s :: ss, w, q => hd w * hd q + dot ss w.tail q.tail
theorem cvs_mono {f : Nat → Nat} {n a : Nat} : ∀ {b}, a ≤ b → cvs f n a ≤ cvs f n b
  | 0, h => by obtain rfl : a = 0 := by omega
               omega
  | b + 1, h => by
    by_cases e : a = b + 1
    · subst e; omega
    · have h1 := cvs_mono (f := f) (n := n) (a := a) (b := b) (by omega)
      show cvs f n a ≤ cvs f n b + f b * f (n - b)
      omega
theorem cvs_top {s x : Nat} (hs : s ≤ 30) (hx : x + 1 ≤ s) : cvs ct (s - 1) x + ct x * ct (s - 1 - x) ≤ ct s := by
  obtain ⟨m, rfl⟩ : ∃ m, s = m + 1 := ⟨s - 1, by omega⟩
  have h1 := cvs_mono (f := ct) (n := m) (a := x + 1) (b := m + 1) (by omega)
  rw [← ct_cv (by omega)] at h1
  exact h1
theorem ct_0 : ct 0 = 1 := by decide
theorem wk_prs {s : Nat} {l R : List Nat} (h : Wk (prs s l) R) : tpp s R < ct s ∧ Wk l (dr s R) := by
  unfold tpp dr
  by_cases c : 0 < s
  · rw [show prs s l = s :: l from if_pos c] at h
    rw [if_pos c, if_pos c]; exact h
  · obtain rfl : s = 0 := by omega
    rw [show prs 0 l = l from if_neg c] at h
    rw [if_neg c, if_neg c]; exact ⟨by rw [ct_0]; omega, h⟩
theorem below_mul {l r A B : Nat} (h1 : l < A) (h2 : r < B) : l * B + r < A * B := by
  have h3 : (l + 1) * B ≤ A * B := Nat.mul_le_mul_right B h1
  rw [Nat.add_mul, Nat.one_mul] at h3
  omega
theorem wk_nd {s x : Nat} {l R : List Nat} (hs : s ≤ 30) (hx : x + 1 ≤ s) (h : Wk (prs x (prs (s - 1 - x) l)) R) : Wk (s :: l) (nd s x R) := by
  obtain ⟨h1, h⟩ := wk_prs h
  obtain ⟨h2, h⟩ := wk_prs h
  have h3 := below_mul h1 h2
  have h4 := cvs_top hs hx
  exact ⟨by show cvs ct (s - 1) x + tpp x R * ct (s - 1 - x) + tpp (s - 1 - x) (dr x R) < ct s; omega, h⟩
theorem wk_rr {n : Nat} {v : Nat → Nat} (h1n : 1 ≤ n) (hn : n ≤ 30) (hv : ∀ i, i < n → v i + 1 ≤ hd (ts n v i)) : ∀ d i, i + d = n → Wk (ts n v i) (rr n v d)
  | 0, i, hi => by
    obtain ⟨h1, h2⟩ := ts_ok h1n hv i (by omega)
    generalize ts n v i = l at *
    cases l with
    | nil => trivial
    | cons s r =>
      have h3 := h1 s List.mem_cons_self
      have h2 : s + tot r + i = n := h2
      omega
  | d + 1, i, hi => by
    obtain ⟨h1, h2⟩ := ts_ok h1n hv i (by omega)
    have h3 := hv i (by omega)
    have h4 := wk_rr h1n hn hv d (i + 1) (by omega)
    show Wk (ts n v i) (nd (hd (ts n v (n - (d + 1)))) (v (n - (d + 1))) (rr n v d))
    rw [show n - (d + 1) = i by omega]
    rw [ts_s] at h4
    generalize ts n v i = l at *
    cases l with
    | nil => exact absurd h3 (by show ¬ v i + 1 ≤ 0; omega)
    | cons s r =>
      have h2 : s + tot r + i = n := h2
      exact wk_nd (by omega) h3 h4
theorem XR_upd {Z : Nat → Int64} {x : Int64} : ∀ {ss q : List Nat} {i j : Nat}, XR Z i ss q → j < i → XR (vp_updL Z j x) i ss q
  | [], _, _, _, _, _ => trivial
  | s :: r, q, i, j, h, hj => ⟨by rw [updL_n (by omega)]; exact h.1, XR_upd h.2 (by omega)⟩
theorem XR_prs {Z : Nat → Int64} {i s : Nat} {l R : List Nat} (h : XR Z i (prs s l) R) : (0 < s → Z i = lN (tpp s R)) ∧ XR Z (i + s) l (dr s R) := by
  unfold tpp dr
  by_cases c : 0 < s
  · rw [show prs s l = s :: l from if_pos c] at h
    rw [if_pos c, if_pos c]; exact ⟨fun _ => h.1, h.2⟩
  · obtain rfl : s = 0 := by omega
    rw [show prs 0 l = l from if_neg c] at h
    rw [if_neg c]; exact ⟨fun z => absurd z c, h⟩
theorem TW_upd {S : Nat → Int64} {x : Int64} : ∀ {ss w : List Nat} {k : Nat}, TW S ss w → ss.length ≤ k → TW (vp_updL S k x) ss w
  | [], _, _, _, _ => trivial
  | s :: r, w, k, h, hk => by
    rw [List.length_cons] at hk
    exact ⟨by rw [updL_n (by omega)]; exact h.1, TW_upd h.2 (by omega)⟩
theorem TW_put {S : Nat → Int64} {ss w : List Nat} {s b : Nat} (h : TW S ss w) : TW (vp_updL S ss.length (lN b)) (s :: ss) (b :: w) :=
  ⟨by rw [updL_s]; rfl, TW_upd h (Nat.le_refl _)⟩
theorem dot_prs {s b : Nat} {l w R : List Nat} : dot (prs s l) (prw s b w) R = b * tpp s R + dot l w (dr s R) := by
  unfold tpp dr prs prw
  by_cases c : 0 < s
  · rw [if_pos c, if_pos c, if_pos c, if_pos c]; rfl
  · rw [if_neg c, if_neg c, if_neg c, if_neg c, Nat.mul_zero, Nat.zero_add]
theorem x_B116 {R : Nat → Int64} {ρ : Int32 → (Nat → Int64) → Option (Int64 × (Nat → Int32) × (Nat → Int64) × (Nat → Int32))} {i s v p e : Nat} (hv : v + 1 ≤ s) (hi : i + s ≤ 60) (h : 0 < s - 1 - v → R (i + 1 + v) = lN e) (h' : ¬ 0 < s - 1 - v → e = 0) : fX7_placeOf_B116 (nI i) R ρ (nI v) (nI s) (lN p) = ρ (nI i - 1) (vp_updL R i (lN (p + e))) := by
  have er : nI s - 1 - nI v = nI (s - 1 - v) := by rw [l1, q_sub (by omega), q_sub (by omega)]
  have ei : nI i + 1 = nI (i + 1) := by rw [l1, q_add]
  unfold fX7_placeOf_B116 fX7_placeOf_B139
  rw [er, ei, q_add]
  by_cases c : 0 < s - 1 - v
  · rw [if_neg (show ¬ nI (s - 1 - v) ≤ 0 by rw [l0, q_le (by omega) (by omega)]; omega), q_atL (by omega) (by omega), Option.bind_some, h c, Q_add, q_setL (by omega) (by omega), Option.bind_some, ← Int32.sub_eq_add_neg]
  · rw [if_pos (show nI (s - 1 - v) ≤ 0 by rw [l0, q_le (by omega) (by omega)]; omega), h' c, Nat.add_zero, q_setL (by omega) (by omega), Option.bind_some, ← Int32.sub_eq_add_neg]
theorem x_rank3_aux {n : Nat} (h1n : 1 ≤ n) (hn : n ≤ 30) {B : Nat → Int64} (hB : TK B) {b Z L : Nat → Int32} {v : Nat → Nat} (hb : ∀ i, i < n → b i = nI (v i)) (hv : ∀ i, i < n → v i + 1 ≤ hd (ts n v i)) (hZ : ∀ j, j < n → Z j = nI (hd (ts n v j))) (k : Int32) : ∀ i d f (R : Nat → Int64), i + d = n → i < f → XR R i (ts n v i) (rr n v d) → ∃ R', rk_it2 (fX7_placeOf_L20 b L B (k, Z)) f (nI i - 1) R = some (lN (hd (rr n v n)), L, R', Z) := by
  intro i
  induction i with
  | zero =>
    intro d f R hi hf hX
    obtain ⟨f, rfl, hf⟩ := suc_of hf
    obtain rfl : d = n := by omega
    rw [it2_s]
    unfold fX7_placeOf_L20
    rw [if_pos (by decide), l0, q_atL (by omega) (by omega), Option.bind_some, hX.1]
    exact ⟨R, rfl⟩
  | succ i ih =>
    intro d f R hi hf hX
    obtain ⟨f, rfl, hf⟩ := suc_of hf
    have v1 := hb i (by omega)
    have v2 := hv i (by omega)
    have hz := hZ i (by omega)
    obtain ⟨k1, k2⟩ := ts_ok h1n hv i (by omega)
    have hrr : rr n v (d + 1) = nd (hd (ts n v i)) (v i) (rr n v d) := by
      show nd (hd (ts n v (n - (d + 1)))) (v (n - (d + 1))) _ = _
      rw [show n - (d + 1) = i by omega]
    rw [ts_s] at hX
    have ih := fun R => ih (d + 1) f R (by omega) (by omega)
    rw [hrr] at ih
    rw [it2_s]
    generalize rk_it2 (fX7_placeOf_L20 b L B (k, Z)) f = g at ih ⊢
    generalize ts n v i = l at *
    cases l with
    | nil => exact absurd v2 (by show ¬ v i + 1 ≤ 0; omega)
    | cons s r =>
      have v2 : v i + 1 ≤ s := v2
      have hz : Z i = nI s := hz
      have k2 : s + tot r + i = n := k2
      have hX : XR R (i + 1) (prs (v i) (prs (s - 1 - v i) r)) (rr n v d) := hX
      have ih : ∀ R, XR R i (s :: r) (nd s (v i) (rr n v d)) → ∃ R', g (nI i - 1) R = some (lN (hd (rr n v n)), L, R', Z) := ih
      generalize v i = x at *
      generalize rr n v d = q at *
      obtain ⟨a1, hX1⟩ := XR_prs hX
      obtain ⟨a2, hX2⟩ := XR_prs hX1
      rw [show i + 1 + x + (s - 1 - x) = i + s by omega] at hX2
      have ei : nI (i + 1) - 1 = nI i := by rw [l1, q_sub (by omega)]; rfl
      have ej : nI i + 1 = nI (i + 1) := by rw [l1, q_add]
      have er : nI s - 1 - nI x = nI (s - 1 - x) := by rw [l1, q_sub (by omega), q_sub (by omega)]
      obtain ⟨pl, y, ⟨rfl, rfl⟩, h⟩ := lpK2 (fun q => fX7_placeOf_L52 B (nI i) R q (nI x) (nI s)) (fun y p t => p = lN (cvs ct (s - 1) y) ∧ t = nI y) x (by
        rintro y p t hy ⟨rfl, rfl⟩
        refine ⟨_, _, ⟨rfl, rfl⟩, fun q g => ?_⟩
        unfold fX7_placeOf_L52
        rw [if_neg (by rw [q_le (by omega) (by omega)]; omega), x_trees hB (by omega), Option.bind_some, er, q_add, q_sub (by omega), show x + (s - 1 - x) - y = s - 1 - y by omega, x_trees hB (by omega), Option.bind_some, Q_mul, Q_add, l1, q_add]
        rfl) x 0 (lN 0) (nI 0) FU (by omega) (FU_gt (by omega)) ⟨rfl, rfl⟩
      obtain ⟨m, h⟩ := h g
      unfold fX7_placeOf_L20
      rw [ei, if_neg (nI_neg (by omega)), q_at (by omega) (by omega), Option.bind_some, q_at (by omega) (by omega), Option.bind_some, v1, show (k, Z).2 = Z from rfl, hz, l0, L0, h]
      unfold fX7_placeOf_L52
      rw [if_pos (by rw [q_le (by omega) (by omega)]; omega), er, ej]
      have fin : ∀ p, p = cvs ct (s - 1) x + tpp x q * ct (s - 1 - x) → ∃ R', fX7_placeOf_B116 (nI i) R g (nI x) (nI s) (lN p) = some (lN (hd (rr n v n)), L, R', Z) := by
        rintro p rfl
        rw [x_B116 (e := tpp (s - 1 - x) (dr x q)) v2 (by omega) a2 (fun c => if_neg c)]
        exact ih _ ⟨by rw [updL_s]; rfl, XR_upd hX2 (by omega)⟩
      by_cases c : 0 < x
      · rw [if_neg (show ¬ nI x ≤ 0 by rw [l0, q_le (by omega) (by omega)]; omega), q_atL (by omega) (by omega), Option.bind_some, x_trees hB (by omega), Option.bind_some, a1 c, Q_mul, Q_add]
        exact fin _ rfl
      · rw [if_pos (show nI x ≤ 0 by rw [l0, q_le (by omega) (by omega)]; omega)]
        exact fin _ (by rw [show tpp x q = 0 from if_neg c]; omega)
theorem m_rank3_aux {n : Nat} (h1n : 1 ≤ n) (hn : n ≤ 30) {K : Nat → Int64} (hK : TK K) {b of : Nat → Int32} (h0 : of 0 = nI n) {v : Nat → Nat} (hb : ∀ i, i < n → b i = nI (v i)) (hv : ∀ i, i < n → v i + 1 ≤ hd (ts n v i)) : ∀ d i f acc w (SL : Nat → Int64) (S : Nat → Int32), i + d = n → d < f → TS S (ts n v i) → TW SL (ts n v i) w → ∃ S1 S2, rk_it5 (fX10_treeRank_L26 b K of) f (lN acc) (nI (ts n v i).length) (nI i) SL S = some (lN (acc + dot (ts n v i) w (rr n v d)), S1, S2) := by
  intro d
  induction d with
  | zero =>
    intro i f acc w SL S hi hf hS hW
    obtain ⟨f, rfl, hf⟩ := suc_of hf
    obtain ⟨k1, k2⟩ := ts_ok h1n hv i (by omega)
    rw [it5_s]
    unfold fX10_treeRank_L26
    rw [h0, if_pos (by rw [q_le (by omega) (by omega)]; omega)]
    generalize ts n v i = l at *
    cases l with
    | nil => exact ⟨SL, S, rfl⟩
    | cons s r =>
      have k2 : s + tot r + i = n := k2
      have := k1 s List.mem_cons_self
      omega
  | succ d ih =>
    intro i f acc w SL S hi hf hS hW
    obtain ⟨f, rfl, hf⟩ := suc_of hf
    have v1 := hb i (by omega)
    have v2 := hv i (by omega)
    obtain ⟨k1, k2⟩ := ts_ok h1n hv i (by omega)
    have hrr : rr n v (d + 1) = nd (hd (ts n v i)) (v i) (rr n v d) := by
      show nd (hd (ts n v (n - (d + 1)))) (v (n - (d + 1))) _ = _
      rw [show n - (d + 1) = i by omega]
    have ih := fun acc w SL S => ih (i + 1) f acc w SL S (by omega) (by omega)
    rw [ts_s] at ih
    rw [it5_s, hrr]
    generalize rk_it5 (fX10_treeRank_L26 b K of) f = g at ih ⊢
    generalize ts n v i = l at *
    cases l with
    | nil => exact absurd v2 (by show ¬ v i + 1 ≤ 0; omega)
    | cons s r =>
      have v2 : v i + 1 ≤ s := v2
      have k2 : s + tot r + i = n := k2
      have k3 := k1 s List.mem_cons_self
      have k4 := pos_len (l := r) (fun x hx => k1 x (List.mem_cons_of_mem _ hx))
      obtain ⟨hS1, hS2⟩ := hS
      obtain ⟨hW1, hW2⟩ := hW
      have ih : ∀ acc w SL S, TS S (prs (v i) (prs (s - 1 - v i) r)) → TW SL (prs (v i) (prs (s - 1 - v i) r)) w → ∃ S1 S2, g (lN acc) (nI (prs (v i) (prs (s - 1 - v i) r)).length) (nI (i + 1)) SL S = some (lN (acc + dot (prs (v i) (prs (s - 1 - v i) r)) w (rr n v d)), S1, S2) := ih
      show ∃ S1 S2, _ = some (lN (acc + (hd w * (cvs ct (s - 1) (v i) + tpp (v i) (rr n v d) * ct (s - 1 - v i) + tpp (s - 1 - v i) (dr (v i) (rr n v d))) + dot r w.tail (dr (s - 1 - v i) (dr (v i) (rr n v d))))), S1, S2)
      generalize v i = x at *
      generalize rr n v d = q at *
      generalize hd w = h at *
      generalize w.tail = wt at *
      have er : nI s - 1 - nI x = nI (s - 1 - x) := by rw [l1, q_sub (by omega), q_sub (by omega)]
      have ej : ∀ k : Nat, nI k + 1 = nI (k + 1) := fun k => by rw [l1, q_add]
      have g1 : ¬ (nI i < 0 ∨ 60 ≤ i) := by rw [l0, q_lt (by omega) (by omega)]; omega
      have g2 : ¬ (nI r.length < 0 ∨ 64 ≤ r.length) := by rw [l0, q_lt (by omega) (by omega)]; omega
      have gk : ∀ k, k ≤ 30 → ¬ (nI k < 0 ∨ 31 ≤ k) := fun k hk => by rw [l0, q_lt (by omega) (by omega)]; omega
      have key : ∀ SL' S', TS S' (prs x (prs (s - 1 - x) r)) → TW SL' (prs x (prs (s - 1 - x) r)) (prw x (h * ct (s - 1 - x)) (prw (s - 1 - x) h wt)) → ∃ S1 S2, g (lN (acc + h * cvs ct (s - 1) x)) (nI (prs x (prs (s - 1 - x) r)).length) (nI (i + 1)) SL' S' = some (lN (acc + (h * (cvs ct (s - 1) x + tpp x q * ct (s - 1 - x) + tpp (s - 1 - x) (dr x q)) + dot r wt (dr (s - 1 - x) (dr x q)))), S1, S2) := by
        intro SL' S' h1 h2
        obtain ⟨S1, S2, e⟩ := ih (acc + h * cvs ct (s - 1) x) _ SL' S' h1 h2
        refine ⟨S1, S2, ?_⟩
        rw [e, dot_prs, dot_prs, Nat.mul_add, Nat.mul_add, Nat.mul_comm (tpp x q), ← Nat.mul_assoc]
        generalize h * ct (s - 1 - x) * tpp x q = A1
        generalize h * cvs ct (s - 1) x = A2
        generalize h * tpp (s - 1 - x) (dr x q) = A3
        rw [show acc + A2 + (A1 + (A3 + dot r wt (dr (s - 1 - x) (dr x q)))) = acc + (A2 + A1 + A3 + dot r wt (dr (s - 1 - x) (dr x q))) by omega]
      obtain ⟨pl, y, ⟨rfl, rfl⟩, hh⟩ := lpK2 (fun q => fX10_treeRank_L68 b K (nI (r.length + 1)) (nI i) SL S q) (fun y p t => p = lN (acc + h * cvs ct (s - 1) y) ∧ t = nI y) x (by
        rintro y p t hy ⟨rfl, rfl⟩
        refine ⟨_, _, ⟨rfl, rfl⟩, fun q g => ?_⟩
        have ey : nI s - 1 - nI y = nI (s - 1 - y) := by rw [l1, q_sub (by omega), q_sub (by omega)]
        unfold fX10_treeRank_L68
        rw [q_cl (a := i) (by omega), v1, if_neg (by rw [q_le (by omega) (by omega)]; omega), pred_nI, q_cl (a := r.length) (by omega), hS1, ey, q_cl (a := y) (by omega), q_cl (a := s - 1 - y) (by omega), if_neg (gk y (by omega)), if_neg (gk (s - 1 - y) (by omega)), hW1, hK y (by omega), hK (s - 1 - y) (by omega), Q_mul, Q_mul, Q_add, ej, Nat.add_assoc, Nat.mul_assoc, ← Nat.mul_add]
        rfl) x 0 (lN (acc + h * cvs ct (s - 1) 0)) (nI 0) FU (by omega) (FU_gt (by omega)) ⟨rfl, rfl⟩
      obtain ⟨m, hh⟩ := hh g
      rw [show acc + h * cvs ct (s - 1) 0 = acc from by show acc + h * 0 = acc; omega] at hh
      unfold fX10_treeRank_L26
      rw [List.length_cons, h0, if_neg (by rw [q_le (by omega) (by omega)]; omega), pred_nI, q_cl (by omega), if_neg g2, q_cl (by omega), if_neg g1, l0, hh]
      unfold fX10_treeRank_L68 fX10_treeRank_B133 fX10_treeRank_B170
      rw [q_cl (by omega), v1, if_pos (by rw [q_le (by omega) (by omega)]; omega), pred_nI, q_cl (by omega), hS1, er, q_cl (a := s - 1 - x) (by omega), if_neg (gk (s - 1 - x) (by omega)), if_neg (gk (s - 1 - x) (by omega)), hW1, hK (s - 1 - x) (by omega), Q_mul, ej, ej]
      by_cases c2 : 0 < s - 1 - x
      · have p2 : prs (s - 1 - x) r = (s - 1 - x) :: r := if_pos c2
        have w2 : prw (s - 1 - x) h wt = h :: wt := if_pos c2
        have t2 := TS_put (s := s - 1 - x) hS2
        have u2 : TW SL ((s - 1 - x) :: r) (h :: wt) := ⟨hW1, hW2⟩
        rw [p2, w2] at key
        rw [if_neg (show ¬ nI (s - 1 - x) ≤ 0 by rw [l0, q_le (by omega) (by omega)]; omega)]
        by_cases c : 0 < x
        · have p1 : prs x ((s - 1 - x) :: r) = x :: (s - 1 - x) :: r := if_pos c
          have w1 : prw x (h * ct (s - 1 - x)) (h :: wt) = (h * ct (s - 1 - x)) :: h :: wt := if_pos c
          have g3 : ¬ (nI (r.length + 1) < 0 ∨ 64 ≤ r.length + 1) := by rw [l0, q_lt (by omega) (by omega)]; omega
          rw [p1, w1] at key
          rw [if_neg (show ¬ nI x ≤ 0 by rw [l0, q_le (by omega) (by omega)]; omega), q_cl (by omega), if_neg g3, ej]
          exact key _ _ (TS_put (s := x) t2) (TW_put (s := x) u2)
        · have p1 : prs x ((s - 1 - x) :: r) = (s - 1 - x) :: r := if_neg c
          have w1 : prw x (h * ct (s - 1 - x)) (h :: wt) = h :: wt := if_neg c
          rw [p1, w1] at key
          rw [if_pos (show nI x ≤ 0 by rw [l0, q_le (by omega) (by omega)]; omega)]
          exact key _ _ t2 u2
      · have p2 : prs (s - 1 - x) r = r := if_neg c2
        have w2 : prw (s - 1 - x) h wt = wt := if_neg c2
        rw [p2, w2] at key
        rw [if_pos (show nI (s - 1 - x) ≤ 0 by rw [l0, q_le (by omega) (by omega)]; omega)]
        by_cases c : 0 < x
        · have p1 : prs x r = x :: r := if_pos c
          have w1 : prw x (h * ct (s - 1 - x)) wt = (h * ct (s - 1 - x)) :: wt := if_pos c
          rw [p1, w1] at key
          rw [if_neg (show ¬ nI x ≤ 0 by rw [l0, q_le (by omega) (by omega)]; omega), if_neg g2]
          exact key _ _ (TS_put (s := x) hS2) (TW_put (s := x) hW2)
        · have p1 : prs x r = r := if_neg c
          have w1 : prw x (h * ct (s - 1 - x)) wt = wt := if_neg c
          rw [p1, w1] at key
          rw [if_pos (show nI x ≤ 0 by rw [l0, q_le (by omega) (by omega)]; omega)]
          exact key _ _ hS2 hW2
theorem rank3 {n : Nat} (h1n : 1 ≤ n) (hn : n ≤ 30) {B K : Nat → Int64} (hB : TK B) (hK : TK K) {b L Z S of : Nat → Int32} {R SL : Nat → Int64} (hb : AccB n b) (h0 : of 0 = nI n) : ∃ r R' Z' SL' S', r < ct n ∧ fX7_placeOf (nI n) b L R Z B = some (lN r, L, R', Z') ∧ fX10_treeRank SL S b K of = some (lN r, SL', S') := by
  obtain ⟨k, Z', S', e1, -, e2⟩ := x_meas h1n hn b Z S of h0
  rcases e2 with ⟨-, e2⟩ | ⟨-, -, e2⟩
  · exact absurd hb e2
  have hv : ∀ i, i < n → (fun i => (b i).toNatClampNeg) i + 1 ≤ hd (ts n (fun i => (b i).toNatClampNeg) i) := fun i hi => (hb i hi).2
  have hb' : ∀ i, i < n → b i = nI ((fun i => (b i).toNatClampNeg) i) := fun i hi => (hb i hi).1
  obtain ⟨k1, k2⟩ := ts_ok h1n hv n (Nat.le_refl n)
  have hx : XR R n (ts n (fun i => (b i).toNatClampNeg) n) (rr n (fun i => (b i).toNatClampNeg) 0) := by
    generalize ts n (fun i => (b i).toNatClampNeg) n = l at *
    cases l with
    | nil => trivial
    | cons s r =>
      have k2 : s + tot r + n = n := k2
      have := k1 s List.mem_cons_self
      omega
  obtain ⟨R', e3⟩ := x_rank3_aux h1n hn hB (L := L) hb' hv e2 k n 0 FU R (by omega) (FU_gt (by omega)) hx
  have hwk := wk_rr h1n hn hv n 0 (by omega)
  obtain ⟨SL', S1, e4⟩ := m_rank3_aux h1n hn hK h0 hb' hv n 0 FU 0 [1] (vp_updL SL 0 (lN 1)) (upd S 0 (nI n)) (by omega) (FU_gt (by omega)) ⟨by show upd S 0 (nI n) 0 = nI n; rw [upd_s], trivial⟩ ⟨by show vp_updL SL 0 (lN 1) 0 = lN 1; rw [updL_s], trivial⟩
  refine ⟨hd (rr n (fun i => (b i).toNatClampNeg) n), R', Z', SL', S1, hwk.1, ?_, ?_⟩
  · unfold fX7_placeOf
    rw [e1, Option.bind_some, e3]
  · unfold fX10_treeRank
    rw [h0, L0, l0, L1, l1]
    refine e4.trans ?_
    rw [show 0 + dot (ts n (fun i => (b i).toNatClampNeg) 0) [1] (rr n (fun i => (b i).toNatClampNeg) n) = hd (rr n (fun i => (b i).toNatClampNeg) n) from by show 0 + (1 * hd _ + 0) = _; omega]
