/-! ===== pure part 26: words, laid ===== -/
theorem wlv_pick {tp l : Nat} {st : List Nat} {r : Nat} : ∀ n, r < lv tp l st n → ∃ v, v < n ∧ lv tp l st v ≤ r ∧ r < lv tp l st (v + 1)
  | 0, h => absurd h (Nat.not_lt_zero r)
  | n + 1, h => by
    by_cases c : r < lv tp l st n
    · obtain ⟨v, h1, h2, h3⟩ := wlv_pick n c
      exact ⟨v, by omega, h2, h3⟩
    · exact ⟨n, by omega, by omega, h⟩
theorem m1_p1 (l : Nat) : nI l + (-1) + 1 = nI l := by
  cases l with
  | zero => decide
  | succ l => rw [pred_nI, l1, q_add]
theorem m_wvm {T : Nat → Int64} (hT : TL T) {tp p i y : Nat} {st : List Nat} (htp : tp = 1 ∨ tp = 2) (hp : p ≤ 20) {S of a : Nat → Int32} (hS : SK S st) (hb : B01 st) (h0 : of 0 = nI p) (h1 : of 1 = nI tp) (hi : i < 2 * p) (hl : st.length ≤ i) (hy : y < 4) (q : Int64 → Int32 → Int32 → (Nat → Int32) → (Nat → Int32) → Option ((Nat → Int32) × (Nat → Int32))) (g : Int64 → Int32 → Int64 → Int32 → Option ((Nat → Int32) × (Nat → Int32))) (x z : Int64) : fX10_makesWord_L45 T of (nI st.length) (nI i) a S q g x (nI y + (-1)) z 1 = g (x - z) (nI y) (lN (wv tp (2 * p - 1 - i) st y)) (if x - z < lN (wv tp (2 * p - 1 - i) st y) then 0 else 1) := by
  have e2 : (2 : Int32) * of 0 - 1 - nI i = nI (2 * p - 1 - i) := by rw [h0, l2, q_mul, l1, q_sub (by omega), q_sub (by omega)]
  have er : nI y - nI y / 2 * 2 = nI (y % 2) := by rw [l2, q_rem (by omega) (by omega) (by omega)]
  have ef : ∀ w : Int64, (if x - z < w then g (x - z) (nI y) w (0 : Int32) else g (x - z) (nI y) w (1 : Int32)) = g (x - z) (nI y) w (if x - z < w then 0 else 1) := by
    intro w
    by_cases c : x - z < w
    · rw [if_pos c, if_pos c]
    · rw [if_neg c, if_neg c]
  unfold fX10_makesWord_L45 fX10_makesWord_B91 fX10_makesWord_B92 fX10_makesWord_B145 fX10_makesWord_B159
  rw [if_neg (show ¬ (1 : Int32) = 0 by decide), m1_p1, er, e2, h1]
  simp only [ef]
  by_cases c : y % 2 = 0
  · have n1 : ¬ nI (y % 2) = 1 := by rw [l1, q_eq (by omega) (by omega)]; omega
    have n2 : ¬ ¬ nI (y % 2) = 0 := by rw [l0, q_eq (by omega) (by omega)]; omega
    have e3 : nI st.length + 1 = nI (st.length + 1) := by rw [l1, q_add]
    rw [if_pos n1, if_neg n2, e3, m_we hT htp (by omega) (by omega), Option.bind_some, wv_even c]
  · have n1 : ¬ ¬ nI (y % 2) = 1 := by rw [l1, q_eq (by omega) (by omega)]; omega
    have n2 : ¬ nI (y % 2) = 0 := by rw [l0, q_eq (by omega) (by omega)]; omega
    rw [if_neg n1]
    cases st with
    | nil =>
      rw [if_pos (show nI ([] : List Nat).length ≤ 0 by decide), if_pos n2, if_pos trivial, wv_nil (by omega)]; rfl
    | cons t st =>
      obtain ⟨hS1, hS2⟩ := hS
      have ht := hb t List.mem_cons_self
      rw [List.length_cons] at *
      have g2 : ¬ (nI st.length < 0 ∨ 64 ≤ st.length) := by rw [l0, q_lt (by omega) (by omega)]; omega
      have e3 : nI (st.length + 1) - 1 = nI st.length := by rw [l1, q_sub (by omega), Nat.add_sub_cancel]
      have e4 : nI y - 1 = nI (y - 1) := by rw [l1, q_sub (by omega)]
      rw [if_neg (show ¬ nI (st.length + 1) ≤ 0 by rw [l0, q_le (by omega) (by omega)]; omega), e3, e4, q_cl (by omega), if_neg g2, hS1, wv_odd (by omega)]
      by_cases e : t = y / 2
      · rw [if_neg (show ¬ ¬ nI (2 * t) = nI (y - 1) by rw [q_eq (by omega) (by omega)]; omega), if_pos n2, if_neg (show ¬ (1 : Int32) = 0 by decide), m_we hT htp (by omega) (by omega), Option.bind_some, if_pos e]
      · rw [if_pos (show ¬ nI (2 * t) = nI (y - 1) by rw [q_eq (by omega) (by omega)]; omega), if_pos n2, if_pos trivial, if_neg e]; rfl
theorem lay2_aux {tp p : Nat} (htp : tp = 1 ∨ tp = 2) (hp : p ≤ 20) {B T : Nat → Int64} (hB : TB B) (hT : TL T) {L Z of : Nat → Int32} {R : Nat → Int64} (h0 : of 0 = nI p) (h1 : of 1 = nI tp) : ∀ d i f f' (st : List Nat) r (a a' S : Nat → Int32), i + d = 2 * p → d < f → d < f' → BT tp st → st.length ≤ i → (st.length + i) % 2 = 0 → r < we tp (2 * p - i) st.length → SK S st → (∀ j, j < i → a j = a' j ∧ ∃ x, x < 4 ∧ a j = nI x) → ∃ w w' S', rk_it5 (fX8_lay_L12 (nI (2 * p)) (nI tp) L R Z B) f (lN r) (nI st.length) (lN (bits st)) (nI i) a = some (w, L, R, Z) ∧ rk_it5 (fX10_makesWord_L8 T of) f' (lN r) (nI st.length) (nI i) a' S = some (w', S') ∧ Same (2 * p) 4 w w' := by
  intro d
  have e2p : (2 : Int32) * of 0 = nI (2 * p) := by rw [h0, l2, q_mul]
  induction d with
  | zero =>
    intro i f f' st r a a' S hi hf hf' hb hl hpar hr hS hj
    obtain ⟨f, rfl, -⟩ := suc_of hf
    obtain ⟨f', rfl, -⟩ := suc_of hf'
    obtain rfl : i = 2 * p := by omega
    refine ⟨a, a', S, ?_, ?_, hj⟩
    · rw [it5_s]; unfold fX8_lay_L12; rw [if_pos (by rw [q_le (by omega) (by omega)]; omega)]
    · rw [it5_s]; unfold fX10_makesWord_L8; rw [e2p, if_pos (by rw [q_le (by omega) (by omega)]; omega)]
  | succ d ih =>
    intro i f f' st r a a' S hi hf hf' hb hl hpar hr hS hj
    obtain ⟨f, rfl, hf⟩ := suc_of hf
    obtain ⟨f', rfl, hf'⟩ := suc_of hf'
    have hb1 := BT_01 htp hb
    have hsum := lv_all (l := 2 * p - 1 - i) htp hb (by omega)
    rw [show 2 * p - 1 - i + 1 = 2 * p - i by omega] at hsum
    have hwl := we_lt (tp := tp) (l := 2 * p - i) (o := st.length) (by omega)
    rw [← hsum] at hr hwl
    obtain ⟨v, v1, v2, v3⟩ := wlv_pick _ hr
    have v4 : ∀ y, y ≤ v → lv tp (2 * p - 1 - i) st y + wv tp (2 * p - 1 - i) st y ≤ lv tp (2 * p - 1 - i) st (2 * tp) := by
      intro y hy
      rw [← lv_s]; exact lv_mono (by omega)
    rw [lv_s] at v3
    have hok : okb st v = true := by
      by_cases c : okb st v = true
      · exact c
      · unfold wv at v3; rw [if_neg c] at v3; omega
    have hwv : wv tp (2 * p - 1 - i) st v = we tp (2 * p - (i + 1)) (nx st v).length := by
      unfold wv; rw [if_pos hok, show 2 * p - 1 - i = 2 * p - (i + 1) by omega]
    obtain ⟨n1, n2⟩ := nx_par hok
    have hSn : SK (if v % 2 = 0 then upd S st.length (nI v) else S) (nx st v) := by
      by_cases ev : v % 2 = 0
      · rw [if_pos ev, nx_even ev]; exact SK_push hS ev
      · rw [if_neg ev, nx_odd (by omega)]
        cases st with
        | nil => trivial
        | cons t st => exact hS.2
    have ih := ih (i + 1) f f' (nx st v) (r - lv tp (2 * p - 1 - i) st v) (upd a i (nI v)) (upd a' i (nI v)) (if v % 2 = 0 then upd S st.length (nI v) else S) (by omega) (by omega) (by omega) (nx_T hb v1) (by omega) (by omega) (by omega) hSn (fun j hj' => by
      by_cases e : j = i
      · subst e; rw [upd_s, upd_s]; exact ⟨rfl, v, by omega, rfl⟩
      · rw [upd_n e, upd_n e]; exact hj j (by omega))
    rw [it5_s, it5_s]
    generalize rk_it5 (fX8_lay_L12 (nI (2 * p)) (nI tp) L R Z B) f = gx at ih ⊢
    generalize rk_it5 (fX10_makesWord_L8 T of) f' = gm at ih ⊢
    have e1 : nI i + 1 = nI (i + 1) := by rw [l1, q_add]
    have g1 : ¬ (nI i < 0 ∨ 60 ≤ i) := by rw [l0, q_lt (by omega) (by omega)]; omega
    have ex : fX8_lay_L12 (nI (2 * p)) (nI tp) L R Z B gx (lN r) (nI st.length) (lN (bits st)) (nI i) a = gx (lN (r - lv tp (2 * p - 1 - i) st v)) (nI (nx st v).length) (lN (bits (nx st v))) (nI (i + 1)) (upd a i (nI v)) := by
      have e2 : fX8_lay_B86 (nI st.length) (lN (bits st)) (nI i) a gx (lN (r - lv tp (2 * p - 1 - i) st v)) (nI v) = gx (lN (r - lv tp (2 * p - 1 - i) st v)) (nI (nx st v).length) (lN (bits (nx st v))) (nI (i + 1)) (upd a i (nI v)) := by
        unfold fX8_lay_B86
        rw [q_set (by omega) (by omega), Option.bind_some, x_dep (by omega) hok, Option.bind_some, x_opn hb1 (by omega) (by omega) hok, Option.bind_some, e1]
      have e2t : (2 : Int32) * nI tp - 1 = nI (2 * tp - 1) := by rw [l2, q_mul, l1, q_sub (by omega)]
      obtain ⟨x, y, z, ⟨rfl, rfl, rfl⟩, h⟩ := lpK3 (fun (q : Int64 → Int32 → Int64 → Int32 → (Nat → Int32) → Option ((Nat → Int32) × (Nat → Int32) × (Nat → Int64) × (Nat → Int32))) => fX8_lay_L27 (nI (2 * p)) (nI tp) B (nI st.length) (lN (bits st)) (nI i) a q) (fun l x y z => x = lN (r - lv tp (2 * p - 1 - i) st l) ∧ y = nI l ∧ z = nI l) v (by
        rintro l x y z hl' ⟨rfl, rfl, rfl⟩
        have h5 := lv_mono (tp := tp) (l := 2 * p - 1 - i) (st := st) (x := l + 1) (y := v) (by omega)
        rw [lv_s] at h5
        refine ⟨_, _, _, ⟨rfl, rfl, rfl⟩, fun q g' => ?_⟩
        unfold fX8_lay_L27
        rw [e2t, if_neg (by rw [q_le (by omega) (by omega)]; omega), x_wv hB htp hb1 (by omega) (by omega) (by omega) (by omega) (by omega) (by omega), Option.bind_some, if_pos (by rw [Q_le (by omega) (by omega)]; omega), l1, q_add, Q_sub (by omega), lv_s, Nat.sub_sub]) v 0 (lN r) (nI 0) (nI 0) FU (by omega) (FU_gt (by omega)) ⟨rfl, rfl, rfl⟩
      obtain ⟨m, h⟩ := h gx
      unfold fX8_lay_L12
      rw [if_neg (by rw [q_le (by omega) (by omega)]; omega), l0, h]
      unfold fX8_lay_L27
      rw [e2, e2t]
      by_cases c1 : 2 * tp - 1 ≤ v
      · rw [if_pos (by rw [q_le (by omega) (by omega)]; exact c1)]
      · have v5 := v4 v (Nat.le_refl v)
        rw [if_neg (by rw [q_le (by omega) (by omega)]; exact c1), x_wv hB htp hb1 (by omega) (by omega) (by omega) (by omega) (by omega) (by omega), Option.bind_some, if_neg (by rw [Q_le (by omega) (by omega)]; omega)]
    have em : fX10_makesWord_L8 T of gm (lN r) (nI st.length) (nI i) a' S = gm (lN (r - lv tp (2 * p - 1 - i) st v)) (nI (nx st v).length) (nI (i + 1)) (upd a' i (nI v)) (if v % 2 = 0 then upd S st.length (nI v) else S) := by
      obtain ⟨x, y, z, w, hI, h⟩ := lpK4 (fun q => fX10_makesWord_L45 T of (nI st.length) (nI i) a' S q) (fun l x y z w => if l ≤ v then x - z = lN (r - lv tp (2 * p - 1 - i) st l) ∧ y = nI l + (-1) ∧ w = 1 else x = lN (r - lv tp (2 * p - 1 - i) st v) ∧ y = nI v ∧ w = 0) (v + 1) (by
        rintro l x y z w hl' hI
        rw [if_pos (by omega)] at hI
        obtain ⟨hx, rfl, rfl⟩ := hI
        have h5 := v4 l (by omega)
        refine ⟨_, _, _, _, ?_, fun q g => m_wvm hT htp hp hS hb1 h0 h1 (by omega) (by omega) (by omega) q g x z⟩
        rw [hx]
        by_cases c : l < v
        · have h6 := lv_mono (tp := tp) (l := 2 * p - 1 - i) (st := st) (x := l + 1) (y := v) (by omega)
          rw [lv_s] at h6
          rw [if_pos (show l + 1 ≤ v by omega), if_neg (show ¬ lN _ < lN _ by rw [Q_lt (by omega) (by omega)]; omega), Q_sub (by omega), pred_nI, lv_s, Nat.sub_sub]
          exact ⟨rfl, rfl, rfl⟩
        · obtain rfl : l = v := by omega
          rw [if_neg (show ¬ l + 1 ≤ l by omega), if_pos (show lN _ < lN _ by rw [Q_lt (by omega) (by omega)]; omega)]
          exact ⟨rfl, rfl, rfl⟩) (v + 1) 0 (lN r) (-1) (lN 0) 1 FU (by omega) (FU_gt (by omega)) (by
        rw [if_pos (Nat.zero_le v)]
        exact ⟨by rw [Q_sub (by omega)]; rfl, by decide, rfl⟩)
      rw [if_neg (show ¬ v + 1 ≤ v by omega)] at hI
      obtain ⟨rfl, rfl, rfl⟩ := hI
      obtain ⟨m, h⟩ := h gm
      unfold fX10_makesWord_L8
      rw [e2p, if_neg (by rw [q_le (by omega) (by omega)]; omega), L0, h]
      unfold fX10_makesWord_L45 fX10_makesWord_B198
      rw [if_pos rfl, q_cl (by omega), if_neg g1, l2, q_rem (by omega) (by omega) (by omega), e1]
      by_cases ev : v % 2 = 0
      · have g2 : ¬ (nI st.length < 0 ∨ 64 ≤ st.length) := by rw [l0, q_lt (by omega) (by omega)]; omega
        rw [if_neg (show ¬ ¬ nI (v % 2) = 0 by rw [l0, q_eq (by omega) (by omega)]; omega), q_cl (by omega), if_neg g2, if_pos ev, nx_even ev, List.length_cons, l1, q_add]
      · rw [if_pos (show ¬ nI (v % 2) = 0 by rw [l0, q_eq (by omega) (by omega)]; omega), if_neg ev, nx_odd (by omega)]
        cases st with
        | nil => rw [okb_nil (by omega)] at hok; cases hok
        | cons t st => rw [List.tail_cons, List.length_cons, pred_nI]
    rw [ex, em]
    exact ih
theorem lay2 {tp p r : Nat} (htp : tp = 1 ∨ tp = 2) (hp : p ≤ 20) {B T : Nat → Int64} (hB : TB B) (hT : TL T) {L Z of S : Nat → Int32} {R : Nat → Int64} (h0 : of 0 = nI p) (h1 : of 1 = nI tp) (hr : r < we tp (2 * p) 0) (a a' : Nat → Int32) : ∃ w w' S', fX8_lay a (nI (2 * p)) (nI tp) L R Z B (lN r) = some (w, L, R, Z) ∧ fX10_makesWord a' S T of (lN r) = some (w', S') ∧ Same (2 * p) 4 w w' := by
  unfold fX8_lay fX10_makesWord
  exact lay2_aux htp hp hB hT h0 h1 (2 * p) 0 FU FU [] r a a' S (by omega) (FU_gt (by omega)) (FU_gt (by omega)) (fun t ht => by cases ht) (Nat.le_refl 0) (by rfl) (by rw [Nat.sub_zero]; exact hr) trivial (fun j hj => by omega)
