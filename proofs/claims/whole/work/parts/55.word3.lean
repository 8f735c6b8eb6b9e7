/-! ===== pure part 25: words, ranked ===== -/
def BT (tp : Nat) (st : List Nat) : Prop := ∀ t, t ∈ st → t < tp
theorem BT_01 {tp : Nat} {st : List Nat} (htp : tp = 1 ∨ tp = 2) (h : BT tp st) : B01 st := fun t ht => by have := h t ht; omega
theorem nx_T {tp : Nat} {st : List Nat} {v : Nat} (hb : BT tp st) (hv : v < 2 * tp) : BT tp (nx st v) := by
  intro t ht
  by_cases c : v % 2 = 0
  · rw [nx_even c] at ht
    rcases List.mem_cons.mp ht with h | h
    · omega
    · exact hb t h
  · rw [nx_odd (by omega)] at ht
    exact hb t (List.mem_of_mem_tail ht)
def lv (tp l : Nat) (st : List Nat) : Nat → Nat
  | 0 => 0
  | x + 1 => lv tp l st x + wv tp l st x
theorem lv_s (tp l : Nat) (st : List Nat) (x : Nat) : lv tp l st (x + 1) = lv tp l st x + wv tp l st x := rfl
theorem lv_mono {tp l : Nat} {st : List Nat} : ∀ {x y}, x ≤ y → lv tp l st x ≤ lv tp l st y
  | x, 0, h => by obtain rfl : x = 0 := by omega
                  omega
  | x, y + 1, h => by
    by_cases e : x = y + 1
    · subst e; omega
    · have := lv_mono (tp := tp) (l := l) (st := st) (x := x) (y := y) (by omega)
      rw [lv_s]; omega
theorem wv_even {tp l v : Nat} {st : List Nat} (h : v % 2 = 0) : wv tp l st v = we tp l (st.length + 1) := by
  unfold wv; rw [if_pos (okb_even h), nx_even h, List.length_cons]
theorem wv_nil {tp l v : Nat} (h : v % 2 = 1) : wv tp l [] v = 0 := by
  unfold wv; rw [okb_nil h, if_neg (by decide)]
theorem wv_odd {tp l v t : Nat} {st : List Nat} (h : v % 2 = 1) : wv tp l (t :: st) v = if t = v / 2 then we tp l st.length else 0 := by
  unfold wv
  by_cases e : t = v / 2
  · rw [if_pos ((okb_odd h).mpr e), if_pos e, nx_odd h, List.tail_cons]
  · rw [if_neg (fun z => e ((okb_odd h).mp z)), if_neg e]
theorem lv_all {tp l : Nat} {st : List Nat} (htp : tp = 1 ∨ tp = 2) (hb : BT tp st) (hp : (l + 1 + st.length) % 2 = 0) : lv tp l st (2 * tp) = we tp (l + 1) st.length := by
  cases st with
  | nil =>
    have hp : l % 2 = 1 := by rw [List.length_nil] at hp; omega
    rw [List.length_nil, we_rec0 htp hp]
    rcases htp with rfl | rfl
    · show 0 + wv 1 l [] 0 + wv 1 l [] 1 = _
      rw [wv_even (by omega), wv_nil (by omega)]
      show 0 + we 1 l 1 + 0 = _
      omega
    · show 0 + wv 2 l [] 0 + wv 2 l [] 1 + wv 2 l [] 2 + wv 2 l [] 3 = _
      rw [wv_even (by omega), wv_nil (by omega), wv_even (by omega), wv_nil (by omega)]
      show 0 + we 2 l 1 + 0 + we 2 l 1 + 0 = _
      omega
  | cons t st =>
    have ht := hb t List.mem_cons_self
    rw [List.length_cons] at hp ⊢
    rw [we_rec htp (by omega)]
    rcases htp with rfl | rfl
    · show 0 + wv 1 l (t :: st) 0 + wv 1 l (t :: st) 1 = _
      rw [wv_even (by omega), wv_odd (by omega), if_pos (by omega), List.length_cons, show st.length + 1 + 1 = st.length + 2 from rfl]
      omega
    · show 0 + wv 2 l (t :: st) 0 + wv 2 l (t :: st) 1 + wv 2 l (t :: st) 2 + wv 2 l (t :: st) 3 = _
      rw [wv_even (by omega), wv_odd (by omega), wv_even (by omega), wv_odd (by omega), List.length_cons, show st.length + 1 + 1 = st.length + 2 from rfl]
      have : t = 0 ∨ t = 1 := by omega
      rcases this with rfl | rfl
      · rw [if_pos (by omega), if_neg (by omega)]; omega
      · rw [if_neg (by omega), if_pos (by omega)]; omega
theorem wv_lt {tp l v : Nat} {st : List Nat} (hl : l ≤ 40) : wv tp l st v ≤ 1152921504606846976 := by
  unfold wv
  by_cases c : okb st v = true
  · rw [if_pos c]; exact we_lt hl
  · rw [if_neg c]; omega
def rv (tp p : Nat) (v : Nat → Nat) : Nat → Nat
  | 0 => 0
  | i + 1 => rv tp p v i + lv tp (2 * p - 1 - i) (sq v i) (v i)
theorem rv_s (tp p : Nat) (v : Nat → Nat) (i : Nat) : rv tp p v (i + 1) = rv tp p v i + lv tp (2 * p - 1 - i) (sq v i) (v i) := rfl
theorem sq_T {tp : Nat} {v : Nat → Nat} {n : Nat} (h : ∀ i, i < n → v i < 2 * tp) : ∀ i, i ≤ n → BT tp (sq v i)
  | 0, _ => fun t ht => by cases ht
  | i + 1, hi => nx_T (sq_T h i (by omega)) (h i (by omega))
theorem rv_lt {tp p : Nat} {v : Nat → Nat} (htp : tp = 1 ∨ tp = 2) (h : ∀ i, i < 2 * p → v i < 2 * tp ∧ okb (sq v i) (v i) = true) : ∀ i, i ≤ 2 * p → rv tp p v i + we tp (2 * p - i) (sq v i).length ≤ we tp (2 * p) 0
  | 0, _ => by show 0 + we tp (2 * p - 0) 0 ≤ _; rw [Nat.sub_zero]; omega
  | i + 1, hi => by
    have ih := rv_lt htp h i (by omega)
    obtain ⟨h1, h2⟩ := h i (by omega)
    obtain ⟨k1, k2, k3⟩ := sq_ok (v := v) (n := 2 * p) (fun j hj => ⟨by have := (h j hj).1; omega, (h j hj).2⟩) i (by omega)
    have h3 := lv_all (l := 2 * p - 1 - i) htp (sq_T (fun j hj => (h j hj).1) i (by omega)) (by omega)
    rw [show 2 * p - 1 - i + 1 = 2 * p - i by omega] at h3
    have h4 := lv_mono (tp := tp) (l := 2 * p - 1 - i) (st := sq v i) (x := v i + 1) (y := 2 * tp) (by omega)
    rw [lv_s] at h4
    unfold wv at h4
    rw [if_pos h2] at h4
    rw [rv_s, sq_s, show 2 * p - (i + 1) = 2 * p - 1 - i by omega]
    omega
theorem x_wv {B : Nat → Int64} (hB : TB B) {tp w i y : Nat} {st : List Nat} (htp : tp = 1 ∨ tp = 2) (hb : B01 st) (hw : w ≤ 40) (hw2 : w % 2 = 0) (hi : i < w) (hl : st.length ≤ i) (hp : (st.length + i) % 2 = 0) (hy : y < 4) : fX8_waysAfter (nI w) (nI tp) B (nI y) (nI i) (nI st.length) (lN (bits st)) = some (lN (wv tp (w - 1 - i) st y)) := by
  unfold fX8_waysAfter wv
  rw [x_may hb hy (by omega), Option.bind_some]
  by_cases c : okb st y = true
  · obtain ⟨h1, h2⟩ := nx_par c
    rw [if_pos c, if_pos c, if_neg (by decide), x_dep hy c, Option.bind_some, l1, q_sub (by omega), q_sub (by omega), x_we hB htp (by omega) (by omega) (by omega), Option.bind_some]
  · rw [if_neg c, if_neg c, if_pos rfl]; rfl
theorem m_wvr {T : Nat → Int64} (hT : TL T) {tp p i y : Nat} {st : List Nat} (htp : tp = 1 ∨ tp = 2) (hp : p ≤ 20) {S b of : Nat → Int32} (hS : SK S st) (hb : B01 st) (h0 : of 0 = nI p) (h1 : of 1 = nI tp) (hi : i < 2 * p) (hl : st.length ≤ i) (hy : y < 4) (hlt : ¬ b i ≤ nI y) (q : Int64 → Int32 → Int32 → (Nat → Int32) → Option (Int64 × (Nat → Int32))) (g : Int64 → Int32 → Option (Int64 × (Nat → Int32))) (x : Int64) : fX10_wordRank_L38 b T of (nI st.length) (nI i) S q g x (nI y) = g (x + lN (wv tp (2 * p - 1 - i) st y)) (nI (y + 1)) := by
  have g1 : ¬ (nI i < 0 ∨ 60 ≤ i) := by rw [l0, q_lt (by omega) (by omega)]; omega
  have e2 : (2 : Int32) * of 0 - 1 - nI i = nI (2 * p - 1 - i) := by rw [h0, l2, q_mul, l1, q_sub (by omega), q_sub (by omega)]
  have e1 : nI y + 1 = nI (y + 1) := by rw [l1, q_add]
  have er : nI y - nI y / 2 * 2 = nI (y % 2) := by rw [l2, q_rem (by omega) (by omega) (by omega)]
  unfold fX10_wordRank_L38 fX10_wordRank_B81 fX10_wordRank_B82 fX10_wordRank_B134
  rw [q_cl (by omega), if_neg g1, if_neg hlt, er, e2, e1, h1]
  by_cases c : y % 2 = 0
  · have n1 : ¬ nI (y % 2) = 1 := by rw [l1, q_eq (by omega) (by omega)]; omega
    have n2 : ¬ ¬ nI (y % 2) = 0 := by rw [l0, q_eq (by omega) (by omega)]; omega
    rw [if_pos n1, if_neg n2, l1, q_add, m_we hT htp (by omega) (by omega), Option.bind_some, wv_even c]
  · have n1 : ¬ ¬ nI (y % 2) = 1 := by rw [l1, q_eq (by omega) (by omega)]; omega
    have n2 : ¬ nI (y % 2) = 0 := by rw [l0, q_eq (by omega) (by omega)]; omega
    rw [if_neg n1]
    cases st with
    | nil =>
      rw [if_pos (show nI ([] : List Nat).length ≤ 0 by decide), if_pos n2, if_pos rfl, wv_nil (by omega)]; rfl
    | cons t st =>
      obtain ⟨hS1, hS2⟩ := hS
      have ht := hb t List.mem_cons_self
      rw [List.length_cons] at *
      have g2 : ¬ (nI st.length < 0 ∨ 64 ≤ st.length) := by rw [l0, q_lt (by omega) (by omega)]; omega
      rw [if_neg (show ¬ nI (st.length + 1) ≤ 0 by rw [l0, q_le (by omega) (by omega)]; omega), l1, q_sub (by omega), Nat.add_sub_cancel, q_cl (by omega), if_neg g2, hS1, q_sub (by omega), wv_odd (by omega)]
      by_cases e : t = y / 2
      · rw [if_neg (show ¬ ¬ nI (2 * t) = nI (y - 1) by rw [q_eq (by omega) (by omega)]; omega), if_pos n2, if_neg (show ¬ nI 1 = 0 by decide), m_we hT htp (by omega) (by omega), Option.bind_some, if_pos e]
      · rw [if_pos (show ¬ nI (2 * t) = nI (y - 1) by rw [q_eq (by omega) (by omega)]; omega), if_pos n2, if_pos rfl, if_neg e]; rfl
theorem rank2 {tp p : Nat} (htp : tp = 1 ∨ tp = 2) (hp : p ≤ 20) {B T : Nat → Int64} (hB : TB B) (hT : TL T) {b L Z of S : Nat → Int32} {R : Nat → Int64} (hb : AccW tp p b) (h0 : of 0 = nI p) (h1 : of 1 = nI tp) : ∃ r S', r < we tp (2 * p) 0 ∧ fX8_placeOf (nI (2 * p)) (nI tp) b L R Z B = some (lN r, L, R, Z) ∧ fX10_wordRank S b T of = some (lN r, S') := by
  obtain ⟨hv, hs⟩ := hb
  have hv2 : ∀ i, i < 2 * p → (fun i => (b i).toNatClampNeg) i < 2 * tp ∧ okb (sq (fun i => (b i).toNatClampNeg) i) ((fun i => (b i).toNatClampNeg) i) = true := fun i hi => (hv i hi).2
  have hv4 : ∀ i, i < 2 * p → (fun i => (b i).toNatClampNeg) i < 4 ∧ okb (sq (fun i => (b i).toNatClampNeg) i) ((fun i => (b i).toNatClampNeg) i) = true := fun i hi => ⟨by have := (hv2 i hi).1; omega, (hv2 i hi).2⟩
  obtain ⟨x, y, z, i, m, ⟨rfl, rfl, rfl, rfl⟩, h⟩ := lpG4 (fX8_placeOf_L11 (nI (2 * p)) (nI tp) b L R Z B) (fun i x y z k => x = lN (rv tp p (fun i => (b i).toNatClampNeg) i) ∧ y = nI (sq (fun i => (b i).toNatClampNeg) i).length ∧ z = lN (bits (sq (fun i => (b i).toNatClampNeg) i)) ∧ k = nI i) (2 * p) (by
    rintro i x y z k hi ⟨rfl, rfl, rfl, rfl⟩
    obtain ⟨k1, k2, k3⟩ := sq_ok hv4 i (by omega)
    obtain ⟨v1, v2, v3⟩ := hv i hi
    refine ⟨_, _, _, _, ⟨rfl, rfl, rfl, rfl⟩, fun g => ?_⟩
    rw [rv_s, sq_s]
    show _ = g (lN (rv tp p (fun i => (b i).toNatClampNeg) i + lv tp (2 * p - 1 - i) (sq (fun i => (b i).toNatClampNeg) i) (b i).toNatClampNeg)) (nI (nx (sq (fun i => (b i).toNatClampNeg) i) (b i).toNatClampNeg).length) (lN (bits (nx (sq (fun i => (b i).toNatClampNeg) i) (b i).toNatClampNeg))) (nI (i + 1))
    generalize sq (fun i => (b i).toNatClampNeg) i = st at *
    generalize rv tp p (fun i => (b i).toNatClampNeg) i = r0 at *
    have e1 : nI i + 1 = nI (i + 1) := by rw [l1, q_add]
    generalize (b i).toNatClampNeg = v at *
    obtain ⟨x, y, ⟨rfl, rfl⟩, h⟩ := lpK2 (fun q => fX8_placeOf_L31 (nI (2 * p)) (nI tp) B (nI st.length) (lN (bits st)) (nI i) q (nI v)) (fun l x y => x = lN (r0 + lv tp (2 * p - 1 - i) st l) ∧ y = nI l) v (by
      rintro l x y hl ⟨rfl, rfl⟩
      refine ⟨_, _, ⟨rfl, rfl⟩, fun q g => ?_⟩
      unfold fX8_placeOf_L31
      rw [if_neg (by rw [q_le (by omega) (by omega)]; omega), x_wv hB htp k1 (by omega) (by omega) (by omega) (by omega) (by omega) (by omega), Option.bind_some, Q_add, l1, q_add, lv_s, Nat.add_assoc]) v 0 (lN r0) (nI 0) FU (by omega) (FU_gt (by omega)) ⟨rfl, rfl⟩
    obtain ⟨m, h⟩ := h g
    unfold fX8_placeOf_L11
    rw [if_neg (by rw [q_le (by omega) (by omega)]; omega), q_at (by omega) (by omega), Option.bind_some, v1, l0, h]
    unfold fX8_placeOf_L31
    rw [if_pos (by rw [q_le (by omega) (by omega)]; omega), x_dep (by omega) v3, Option.bind_some, x_opn k1 (by omega) (by omega) v3, Option.bind_some, e1]) (2 * p) 0 (lN 0) (nI 0) (lN 0) (nI 0) FU (by omega) (FU_gt (by omega)) ⟨rfl, rfl, rfl, rfl⟩
  obtain ⟨x, y, i, S', m', ⟨rfl, rfl, rfl, -⟩, h'⟩ := lpG4 (fX10_wordRank_L7 b T of) (fun i x y k S => x = lN (rv tp p (fun i => (b i).toNatClampNeg) i) ∧ y = nI (sq (fun i => (b i).toNatClampNeg) i).length ∧ k = nI i ∧ SK S (sq (fun i => (b i).toNatClampNeg) i)) (2 * p) (by
    rintro i x y k S hi ⟨rfl, rfl, rfl, hS⟩
    obtain ⟨k1, k2, k3⟩ := sq_ok hv4 i (by omega)
    obtain ⟨v1, v2, v3⟩ := hv i hi
    have e2p : (2 : Int32) * of 0 = nI (2 * p) := by rw [h0, l2, q_mul]
    have e1 : nI i + 1 = nI (i + 1) := by rw [l1, q_add]
    have g1 : ¬ (nI i < 0 ∨ 60 ≤ i) := by rw [l0, q_lt (by omega) (by omega)]; omega
    refine ⟨_, _, _, if (b i).toNatClampNeg % 2 = 0 then upd S (sq (fun i => (b i).toNatClampNeg) i).length (nI (b i).toNatClampNeg) else S, ⟨rfl, rfl, rfl, ?_⟩, fun g => ?_⟩
    · rw [sq_s]
      by_cases ev : (b i).toNatClampNeg % 2 = 0
      · rw [if_pos ev, nx_even ev]; exact SK_push hS ev
      · rw [if_neg ev, nx_odd (by omega)]
        generalize sq (fun i => (b i).toNatClampNeg) i = st at *
        cases st with
        | nil => trivial
        | cons t st => exact hS.2
    · rw [rv_s, sq_s]
      show _ = g (lN (rv tp p (fun i => (b i).toNatClampNeg) i + lv tp (2 * p - 1 - i) (sq (fun i => (b i).toNatClampNeg) i) (b i).toNatClampNeg)) (nI (nx (sq (fun i => (b i).toNatClampNeg) i) (b i).toNatClampNeg).length) (nI (i + 1)) _
      generalize sq (fun i => (b i).toNatClampNeg) i = st at *
      generalize rv tp p (fun i => (b i).toNatClampNeg) i = r0 at *
      generalize (b i).toNatClampNeg = v at *
      obtain ⟨x, y, ⟨rfl, rfl⟩, h⟩ := lpK2 (fun q => fX10_wordRank_L38 b T of (nI st.length) (nI i) S q) (fun l x y => x = lN (r0 + lv tp (2 * p - 1 - i) st l) ∧ y = nI l) v (by
        rintro l x y hl ⟨rfl, rfl⟩
        refine ⟨_, _, ⟨rfl, rfl⟩, fun q g => ?_⟩
        rw [m_wvr hT htp hp hS k1 h0 h1 hi (by omega) (by omega) (by rw [v1, q_le (by omega) (by omega)]; omega), Q_add, lv_s, Nat.add_assoc]) v 0 (lN r0) (nI 0) FU (by omega) (FU_gt (by omega)) ⟨rfl, rfl⟩
      obtain ⟨m, h⟩ := h g
      unfold fX10_wordRank_L7
      rw [e2p, if_neg (by rw [q_le (by omega) (by omega)]; omega), l0, h]
      unfold fX10_wordRank_L38 fX10_wordRank_B176
      rw [q_cl (by omega), if_neg g1, v1, if_pos (by rw [q_le (by omega) (by omega)]; omega), l2, q_rem (by omega) (by omega) (by omega), e1]
      by_cases ev : v % 2 = 0
      · have g2 : ¬ (nI st.length < 0 ∨ 64 ≤ st.length) := by rw [l0, q_lt (by omega) (by omega)]; omega
        rw [if_neg (show ¬ ¬ nI (v % 2) = 0 by rw [l0, q_eq (by omega) (by omega)]; omega), q_cl (by omega), if_neg g2, if_pos ev, nx_even ev, List.length_cons, l1, q_add]
      · rw [if_pos (show ¬ nI (v % 2) = 0 by rw [l0, q_eq (by omega) (by omega)]; omega), if_neg ev, nx_odd (by omega)]
        cases st with
        | nil => rw [okb_nil (by omega)] at v3; cases v3
        | cons t st => rw [List.tail_cons, List.length_cons, pred_nI]) (2 * p) 0 (lN 0) (nI 0) (nI 0) S FU (by omega) (FU_gt (by omega)) ⟨rfl, rfl, rfl, trivial⟩
  refine ⟨rv tp p (fun i => (b i).toNatClampNeg) (2 * p), S', ?_, ?_, ?_⟩
  · have := rv_lt htp hv2 (2 * p) (Nat.le_refl _)
    rw [hs, Nat.sub_self] at this
    have h5 : we tp 0 0 = 1 := by rcases htp with rfl | rfl <;> rfl
    omega
  · unfold fX8_placeOf
    rw [l0, L0, h]
    unfold fX8_placeOf_L11
    rw [if_pos (by rw [q_le (by omega) (by omega)]; omega)]
  · unfold fX10_wordRank
    rw [l0, L0, h']
    unfold fX10_wordRank_L7
    rw [if_pos (by rw [h0, l2, q_mul, q_le (by omega) (by omega)]; omega)]
