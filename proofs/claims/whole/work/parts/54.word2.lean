/-! ===== pure part 24: words, accepted ===== -/
theorem SK_upd {S : Nat → Int32} {x : Int32} : ∀ {st : List Nat} {k : Nat}, SK S st → st.length ≤ k → SK (upd S k x) st
  | [], _, _, _ => trivial
  | t :: st, k, h, hk => by
    rw [List.length_cons] at hk
    exact ⟨by rw [upd_n (by omega)]; exact h.1, SK_upd h.2 (by omega)⟩
theorem SK_push {S : Nat → Int32} {st : List Nat} {v : Nat} (h : SK S st) (hv : v % 2 = 0) : SK (upd S st.length (nI v)) ((v / 2) :: st) :=
  ⟨by rw [upd_s, show 2 * (v / 2) = v by omega], SK_upd h (Nat.le_refl _)⟩
theorem x_isop {v : Nat} (hv : v < 4) : fX8_isOpening (nI v) = some (if v % 2 = 0 then 1 else 0) := k_opn ⟨v, hv⟩
theorem x_may {st : List Nat} {v : Nat} (hb : B01 st) (hv : v < 4) (hl : st.length ≤ 60) : fX8_mayFollow (nI v) (nI st.length) (lN (bits st)) = some (if okb st v = true then 1 else 0) := by
  unfold fX8_mayFollow
  rw [x_isop hv, Option.bind_some]
  by_cases c : v % 2 = 0
  · rw [if_pos c, if_pos (by decide), if_pos (okb_even c)]; rfl
  · rw [if_neg c, if_neg (by decide)]
    cases st with
    | nil =>
      rw [okb_nil (by omega), if_pos (show nI ([] : List Nat).length ≤ 0 by decide)]; rfl
    | cons t st =>
      have ht := hb t List.mem_cons_self
      rw [List.length_cons] at *
      rw [if_neg (by rw [l0, q_le (by omega) (by omega)]; omega), Q_and1, bits_mod ht, k_type ⟨v, hv⟩]
      by_cases e : t = v / 2
      · rw [if_pos ((okb_odd (by omega)).mpr e), if_neg (fun z => z (by rw [e]))]; rfl
      · rw [if_neg (fun z => e ((okb_odd (by omega)).mp z)), if_pos (by rw [Q_eq (by omega) (by omega)]; exact e)]; rfl
theorem x_dep {st : List Nat} {v : Nat} (hv : v < 4) (h : okb st v = true) : fX8_depthAfter (nI st.length) (nI v) = some (nI (nx st v).length) := by
  unfold fX8_depthAfter
  rw [x_isop hv, Option.bind_some]
  by_cases c : v % 2 = 0
  · rw [if_pos c, if_neg (by decide), nx_even c, List.length_cons, l1, q_add]
  · rw [if_neg c, if_pos rfl, nx_odd (by omega)]
    cases st with
    | nil => rw [okb_nil (by omega)] at h; cases h
    | cons t st => rw [List.tail_cons, List.length_cons, l1, q_sub (by omega), Nat.add_sub_cancel]
theorem x_opn {st : List Nat} {v : Nat} (hb : B01 st) (hl : st.length ≤ 60) (hv : v < 4) (h : okb st v = true) : fX8_openAfter (lN (bits st)) (nI v) = some (lN (bits (nx st v))) := by
  have hbl := bits_lt' hb hl
  unfold fX8_openAfter
  rw [x_isop hv, Option.bind_some]
  by_cases c : v % 2 = 0
  · rw [if_pos c, if_neg (by decide), nx_even c, Q_shl1, k_type ⟨v, hv⟩, Q_or _ _ (by show v / 2 < 2; omega)]
    rfl
  · rw [if_neg c, if_pos rfl, nx_odd (by omega), Q_ushr _ (by omega)]
    cases st with
    | nil => rw [okb_nil (by omega)] at h; cases h
    | cons t st => rw [List.tail_cons, bits_div (hb t List.mem_cons_self)]
def sq (v : Nat → Nat) : Nat → List Nat
  | 0 => []
  | i + 1 => nx (sq v i) (v i)
theorem sq_s (v : Nat → Nat) (i : Nat) : sq v (i + 1) = nx (sq v i) (v i) := rfl
theorem sq_ok {v : Nat → Nat} {n : Nat} (h : ∀ i, i < n → v i < 4 ∧ okb (sq v i) (v i) = true) : ∀ i, i ≤ n → B01 (sq v i) ∧ (sq v i).length ≤ i ∧ ((sq v i).length + i) % 2 = 0
  | 0, _ => ⟨(fun t ht => by cases ht), Nat.le_refl 0, rfl⟩
  | i + 1, hi => by
    obtain ⟨h1, h2, h3⟩ := sq_ok h i (by omega)
    obtain ⟨h4, h5⟩ := h i (by omega)
    obtain ⟨h6, h7⟩ := nx_par h5
    rw [sq_s]
    exact ⟨nx_01 h1 h4, by omega, by omega⟩
def AccW (tp p : Nat) (b : Nat → Int32) : Prop := (∀ i, i < 2 * p → b i = nI (b i).toNatClampNeg ∧ (b i).toNatClampNeg < 2 * tp ∧ okb (sq (fun i => (b i).toNatClampNeg) i) (b i).toNatClampNeg = true) ∧ (sq (fun i => (b i).toNatClampNeg) (2 * p)).length = 0
theorem acc2_aux {tp p : Nat} (htp : tp = 1 ∨ tp = 2) (hp : p ≤ 20) (b L Z of : Nat → Int32) (h0 : of 0 = nI p) (h1 : of 1 = nI tp) : ∀ d i fx fm (S : Nat → Int32), i + d = 2 * p → d < fx → d < fm → (∀ j, j < i → b j = nI (b j).toNatClampNeg ∧ (b j).toNatClampNeg < 2 * tp ∧ okb (sq (fun i => (b i).toNatClampNeg) j) (b j).toNatClampNeg = true) → SK S (sq (fun i => (b i).toNatClampNeg) i) → ∃ (v : Int32) (S' : Nat → Int32), rk_it3 (fX8_accepts_L8 (nI (2 * p)) (nI tp) b L Z) fx (nI (sq (fun i => (b i).toNatClampNeg) i).length) (lN (bits (sq (fun i => (b i).toNatClampNeg) i))) (nI i) = some (v, L, Z) ∧ rk_it3 (fX10_isWord_L4 b of) fm (nI (sq (fun i => (b i).toNatClampNeg) i).length) (nI i) S = some (v, S') ∧ (v = 0 ∧ ¬ AccW tp p b ∨ v = 1 ∧ AccW tp p b) := by
  intro d
  have e2p : (2 : Int32) * of 0 = nI (2 * p) := by rw [h0, l2, q_mul]
  induction d with
  | zero =>
    intro i fx fm S hi hfx hfm hj hS
    obtain ⟨fx, rfl, -⟩ := suc_of hfx
    obtain ⟨fm, rfl, -⟩ := suc_of hfm
    obtain ⟨k1, k2, k3⟩ := sq_ok (n := i) (fun j h => ⟨by have := (hj j h).2.1; omega, (hj j h).2.2⟩) i (Nat.le_refl i)
    obtain rfl : i = 2 * p := by omega
    have hle : nI (2 * p) ≤ nI (2 * p) := by rw [q_le (by omega) (by omega)]; omega
    rw [it3_s, it3_s]
    unfold fX8_accepts_L8 fX10_isWord_L4
    rw [e2p, if_pos hle, if_pos hle]
    by_cases c : (sq (fun i => (b i).toNatClampNeg) (2 * p)).length = 0
    · have c' : ¬ ¬ nI (sq (fun i => (b i).toNatClampNeg) (2 * p)).length = 0 := by rw [l0, q_eq (by omega) (by omega)]; omega
      rw [if_neg c', if_neg c']
      exact ⟨1, S, rfl, rfl, Or.inr ⟨rfl, hj, c⟩⟩
    · have c' : ¬ nI (sq (fun i => (b i).toNatClampNeg) (2 * p)).length = 0 := by rw [l0, q_eq (by omega) (by omega)]; omega
      rw [if_pos c', if_pos c']
      exact ⟨0, S, rfl, rfl, Or.inl ⟨rfl, fun z => c z.2⟩⟩
  | succ d ih =>
    intro i fx fm S hi hfx hfm hj hS
    obtain ⟨fx, rfl, hfx⟩ := suc_of hfx
    obtain ⟨fm, rfl, hfm⟩ := suc_of hfm
    obtain ⟨k1, k2, k3⟩ := sq_ok (n := i) (fun j h => ⟨by have := (hj j h).2.1; omega, (hj j h).2.2⟩) i (Nat.le_refl i)
    have ih := ih (i + 1) fx fm
    rw [it3_s, it3_s]
    generalize rk_it3 (fX8_accepts_L8 (nI (2 * p)) (nI tp) b L Z) fx = gx at ih ⊢
    generalize rk_it3 (fX10_isWord_L4 b of) fm = gm at ih ⊢
    have z0 : (0 : Int32).toInt = 0 := by decide
    have Z0 : (0 : Int64).toInt = 0 := by decide
    have e1 : nI i + 1 = nI (i + 1) := by rw [l1, q_add]
    have g1 : ¬ (nI i < 0 ∨ 60 ≤ i) := by rw [l0, q_lt (by omega) (by omega)]; omega
    have e2t : (2 : Int32) * nI tp = nI (2 * tp) := by rw [l2, q_mul]
    have e2T : (2 : Int64) * (of 1).toInt64 - 1 = lN (2 * tp - 1) := by rw [h1, q_i2l (by omega), L2, Q_mul, L1, Q_sub (by omega)]
    have eT : (lN (2 * tp - 1)).toInt = 2 * tp - 1 := by rcases htp with rfl | rfl <;> decide
    have bad : ¬ AccW tp p b → ∃ (v : Int32) (S' : Nat → Int32), some ((0 : Int32), L, Z) = some (v, L, Z) ∧ some ((0 : Int32), S) = some (v, S') ∧ (v = 0 ∧ ¬ AccW tp p b ∨ v = 1 ∧ AccW tp p b) := fun h => ⟨0, S, rfl, rfl, Or.inl ⟨rfl, h⟩⟩
    unfold fX8_accepts_L8 fX10_isWord_L4
    rw [e2p, e2t, e2T, if_neg (by rw [q_le (by omega) (by omega)]; omega), if_neg (by rw [q_le (by omega) (by omega)]; omega), q_at (by omega) (by omega), Option.bind_some, q_cl (by omega), if_neg g1, e1]
    by_cases r : 0 ≤ (b i).toInt ∧ (b i).toInt < 2 * tp
    · have v1 : b i = nI (b i).toNatClampNeg := i_of (by omega)
      have v2 : (b i).toNatClampNeg < 2 * tp := by rw [i_cl]; omega
      rw [if_neg (by rw [i_lt, z0]; omega), if_neg (by rw [i_le, i_nI (by omega)]; omega), w_yes (by rw [i_lt64, i_w, Z0]; omega) (by rw [i_lt64, i_w, eT]; omega), Option.bind_some, if_pos (by decide)]
      have hgood : okb (sq (fun i => (b i).toNatClampNeg) i) (b i).toNatClampNeg = true → ∀ j, j < i + 1 → b j = nI (b j).toNatClampNeg ∧ (b j).toNatClampNeg < 2 * tp ∧ okb (sq (fun i => (b i).toNatClampNeg) j) (b j).toNatClampNeg = true := by
        intro hok j hj'
        by_cases q : j = i
        · subst q; exact ⟨v1, v2, hok⟩
        · exact hj j (by omega)
      have hbad : ¬ okb (sq (fun i => (b i).toNatClampNeg) i) (b i).toNatClampNeg = true → ¬ AccW tp p b := fun h z => h (z.1 i (by omega)).2.2
      have ih := fun S' hS' hok => ih S' (by omega) (by omega) (by omega) (hgood hok) hS'
      rw [show sq (fun i => (b i).toNatClampNeg) (i + 1) = nx (sq (fun i => (b i).toNatClampNeg) i) (b i).toNatClampNeg from rfl] at ih
      generalize sq (fun i => (b i).toNatClampNeg) i = st at *
      generalize (b i).toNatClampNeg = v at *
      rw [v1, x_may k1 (by omega) (by omega), Option.bind_some, l2, q_rem (by omega) (by omega) (by omega)]
      by_cases ev : v % 2 = 0
      · have hok := okb_even (st := st) ev
        have g2 : ¬ (nI st.length < 0 ∨ 64 ≤ st.length) := by rw [l0, q_lt (by omega) (by omega)]; omega
        rw [hok, if_pos rfl, if_pos (by decide), x_dep (by omega) hok, Option.bind_some, x_opn k1 (by omega) (by omega) hok, Option.bind_some, ev, if_neg (fun z => z rfl), q_cl (by omega), if_neg g2]
        unfold fX10_isWord_B89
        rw [e1, l1, q_add]
        have := ih (upd S st.length (nI v)) (by rw [nx_even ev]; exact SK_push hS ev) hok
        rw [nx_even ev, List.length_cons] at this ⊢
        exact this
      · have e3 : ¬ nI (v % 2) = 0 := by rw [l0, q_eq (by omega) (by omega)]; exact ev
        rw [if_pos e3]
        cases st with
        | nil =>
          rw [okb_nil (by omega), if_neg (show ¬ false = true by decide), if_neg (show ¬ ¬ (0 : Int32) = 0 by decide), if_pos (show nI ([] : List Nat).length = 0 from rfl)]
          exact bad (hbad (by rw [okb_nil (by omega)]; decide))
        | cons t st =>
          have ht := k1 t List.mem_cons_self
          obtain ⟨hS1, hS2⟩ := hS
          rw [List.length_cons] at *
          have g2 : ¬ (nI st.length < 0 ∨ 64 ≤ st.length) := by rw [l0, q_lt (by omega) (by omega)]; omega
          rw [if_neg (show ¬ nI (st.length + 1) = 0 by rw [l0, q_eq (by omega) (by omega)]; omega), l1, q_sub (by omega), Nat.add_sub_cancel, q_cl (by omega), if_neg g2, hS1, q_sub (by omega)]
          by_cases e : t = v / 2
          · have hok : okb (t :: st) v = true := (okb_odd (by omega)).mpr e
            rw [if_pos (show nI (2 * t) = nI (v - 1) by rw [q_eq (by omega) (by omega)]; omega), hok, if_pos rfl, if_pos (by decide)]
            have d1 := x_dep (st := t :: st) (v := v) (by omega) hok
            rw [List.length_cons] at d1
            rw [d1, Option.bind_some, x_opn k1 (by rw [List.length_cons]; omega) (by omega) hok, Option.bind_some]
            unfold fX10_isWord_B89
            rw [e1, show (-nI 1 : Int32) = -1 from rfl, pred_nI]
            have := ih S (by rw [nx_odd (by omega)]; exact hS2) hok
            rw [nx_odd (by omega), List.tail_cons] at this ⊢
            exact this
          · have hno : ¬ okb (t :: st) v = true := fun z => e ((okb_odd (by omega)).mp z)
            rw [if_neg (show ¬ nI (2 * t) = nI (v - 1) by rw [q_eq (by omega) (by omega)]; omega), if_neg hno, if_neg (by decide)]
            exact bad (hbad hno)
    · have hno : ¬ AccW tp p b := by
        intro z
        obtain ⟨h3, h4, -⟩ := z.1 i (by omega)
        have h5 : (b i).toInt = (b i).toNatClampNeg := by rw [congrArg Int32.toInt h3, i_nI (by omega)]
        omega
      rw [w_no (by rw [i_lt64, i_lt64, i_w, eT, Z0]; omega), Option.bind_some, if_neg (show ¬ ¬ (0 : Int32) = 0 by decide)]
      by_cases r1 : (b i).toInt < 0
      · rw [if_pos (by rw [i_lt, z0]; exact r1)]; exact bad hno
      · rw [if_neg (by rw [i_lt, z0]; exact r1), if_pos (by rw [i_le, i_nI (by omega)]; omega)]; exact bad hno
theorem acc2 {tp p : Nat} (htp : tp = 1 ∨ tp = 2) (hp : p ≤ 20) (b L Z of S : Nat → Int32) (h0 : of 0 = nI p) (h1 : of 1 = nI tp) : ∃ (v : Int32) (S' : Nat → Int32), fX8_accepts (nI (2 * p)) (nI tp) b L Z = some (v, L, Z) ∧ fX10_isWord S b of = some (v, S') ∧ (v = 0 ∧ ¬ AccW tp p b ∨ v = 1 ∧ AccW tp p b) :=
  acc2_aux htp hp b L Z of h0 h1 (2 * p) 0 FU FU S (by omega) (FU_gt (by omega)) (FU_gt (by omega)) (fun j hj => by omega) trivial
