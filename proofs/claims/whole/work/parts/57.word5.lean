/-! ===== pure part 27: words mirrored ===== -/
def fx (v : Nat) : Nat := if v % 2 = 0 then v + 1 else v - 1
theorem fx_xor : ∀ v : Fin 4, nI v.val ^^^ (1 : Int32) = nI (fx v.val) := by decide
theorem fx_lt {v tp : Nat} (h : v < 2 * tp) : fx v < 2 * tp := by
  unfold fx
  by_cases c : v % 2 = 0
  · rw [if_pos c]; omega
  · rw [if_neg c]; omega
theorem fx_back {st : List Nat} {v : Nat} (h : okb st v = true) : okb (nx st v) (fx v) = true ∧ nx (nx st v) (fx v) = st := by
  unfold fx
  by_cases c : v % 2 = 0
  · rw [if_pos c, nx_even c]
    refine ⟨(okb_odd (by omega)).mpr (by omega), ?_⟩
    rw [nx_odd (by omega), List.tail_cons]
  · rw [if_neg c, nx_odd (by omega)]
    cases st with
    | nil => rw [okb_nil (by omega)] at h; cases h
    | cons t st =>
      have e := (okb_odd (by omega)).mp h
      rw [List.tail_cons]
      refine ⟨okb_even (by omega), ?_⟩
      rw [nx_even (by omega), show (v - 1) / 2 = t by omega]
theorem fx_sq {v u : Nat → Nat} {n : Nat} (hv : ∀ i, i < n → okb (sq v i) (v i) = true) (h0 : sq v n = []) (hu : ∀ j, j < n → u j = fx (v (n - 1 - j))) : ∀ j, j ≤ n → sq u j = sq v (n - j)
  | 0, _ => by rw [Nat.sub_zero, h0]; rfl
  | j + 1, hj => by
    have ih := fx_sq hv h0 hu j (by omega)
    have h1 := (fx_back (hv (n - 1 - j) (by omega))).2
    rw [sq_s, ih, hu j (by omega), show n - j = n - 1 - j + 1 by omega, sq_s, h1, show n - 1 - j = n - (j + 1) by omega]
theorem turn2 {tp p : Nat} (htp : tp = 1 ∨ tp = 2) (hp : p ≤ 20) {b L Z of : Nat → Int32} (hb : AccW tp p b) (h0 : of 0 = nI p) (a a' : Nat → Int32) : ∃ w w', fX8_turn a (nI (2 * p)) b L Z = some (w, L, Z) ∧ fX10_mirrorsWord a' b of = some w' ∧ Same (2 * p) 4 w w' ∧ AccW tp p w := by
  obtain ⟨hv, hs⟩ := hb
  have hx : ∀ i, i < 2 * p → b i ^^^ (1 : Int32) = nI (fx (b i).toNatClampNeg) := by
    intro i hi
    obtain ⟨v1, v2, -⟩ := hv i hi
    have := fx_xor ⟨(b i).toNatClampNeg, by omega⟩
    rw [← v1] at this
    exact this
  have hf4 : ∀ i, i < 2 * p → fx (b i).toNatClampNeg < 2 * tp := fun i hi => fx_lt (hv i hi).2.1
  have e2p : (2 : Int32) * of 0 = nI (2 * p) := by rw [h0, l2, q_mul]
  unfold fX8_turn fX10_mirrorsWord
  obtain ⟨k, w, q, ⟨rfl, hw⟩, h⟩ := lpG2 (fX8_turn_L3 (nI (2 * p)) b L Z) (fun i k a => k = nI i ∧ ∀ j, j < i → a j = nI (fx (b (2 * p - 1 - j)).toNatClampNeg)) (2 * p) (by
    rintro i k a hi ⟨rfl, ha⟩
    refine ⟨_, upd a i (nI (fx (b (2 * p - 1 - i)).toNatClampNeg)), ⟨rfl, fun j hj => ?_⟩, fun g => ?_⟩
    · by_cases e : j = i
      · subst e; rw [upd_s]
      · rw [upd_n e]; exact ha j (by omega)
    · have e1 : nI i + 1 = nI (i + 1) := by rw [l1, q_add]
      have e2 : nI (2 * p) - 1 - nI i = nI (2 * p - 1 - i) := by rw [l1, q_sub (by omega), q_sub (by omega)]
      unfold fX8_turn_L3
      rw [if_neg (by rw [q_le (by omega) (by omega)]; omega), e2, q_at (by omega) (by omega), Option.bind_some, hx _ (by omega), q_set (by omega) (by omega), Option.bind_some, e1]) (2 * p) 0 (nI 0) a FU (by omega) (FU_gt (by omega)) ⟨rfl, fun j hj => by omega⟩
  obtain ⟨k, w', q', ⟨rfl, hw'⟩, h'⟩ := lpG2 (fX10_mirrorsWord_L11 b of) (fun i k a => k = nI i ∧ ∀ j, 2 * p - i ≤ j → j < 2 * p → a j = nI (fx (b (2 * p - 1 - j)).toNatClampNeg)) (2 * p) (by
    rintro i k a hi ⟨rfl, ha⟩
    refine ⟨_, upd a (2 * p - 1 - i) (nI (fx (b i).toNatClampNeg)), ⟨rfl, fun j h1 h2 => ?_⟩, fun g => ?_⟩
    · by_cases e : j = 2 * p - 1 - i
      · subst e; rw [upd_s, show 2 * p - 1 - (2 * p - 1 - i) = i by omega]
      · rw [upd_n e]; exact ha j (by omega) h2
    · have e1 : nI i + 1 = nI (i + 1) := by rw [l1, q_add]
      have e2 : nI (2 * p) - 1 - nI i = nI (2 * p - 1 - i) := by rw [l1, q_sub (by omega), q_sub (by omega)]
      have g1 : ¬ (nI i < 0 ∨ 60 ≤ i) := by rw [l0, q_lt (by omega) (by omega)]; omega
      have g2 : ¬ (nI (2 * p - 1 - i) < 0 ∨ 60 ≤ 2 * p - 1 - i) := by rw [l0, q_lt (by omega) (by omega)]; omega
      unfold fX10_mirrorsWord_L11
      rw [e2p, if_neg (by rw [q_le (by omega) (by omega)]; omega), e2, q_cl (by omega), if_neg g1, q_cl (by omega), if_neg g2, hx i hi, e1]) (2 * p) 0 (nI 0) a' FU (by omega) (FU_gt (by omega)) ⟨rfl, fun j h1 h2 => by omega⟩
  rw [l0, h, h']
  have hwj : ∀ j, j < 2 * p → (w j).toNatClampNeg = fx (b (2 * p - 1 - j)).toNatClampNeg := by
    intro j hj
    rw [hw j hj, q_cl (by have := hf4 (2 * p - 1 - j) (by omega); omega)]
  have h0' : sq (fun i => (b i).toNatClampNeg) (2 * p) = [] := List.eq_nil_of_length_eq_zero hs
  have hsq := fx_sq (v := fun i => (b i).toNatClampNeg) (u := fun i => (w i).toNatClampNeg) (fun i hi => (hv i hi).2.2) h0' hwj
  refine ⟨w, w', ?_, ?_, fun j hj => ⟨?_, _, ?_, hw j hj⟩, fun j hj => ⟨?_, ?_, ?_⟩, ?_⟩
  · unfold fX8_turn_L3; rw [if_pos (by rw [q_le (by omega) (by omega)]; omega)]
  · unfold fX10_mirrorsWord_L11; rw [e2p, if_pos (by rw [q_le (by omega) (by omega)]; omega)]
  · rw [hw j hj, hw' j (by omega) hj]
  · have := hf4 (2 * p - 1 - j) (by omega); omega
  · rw [hwj j hj]; exact hw j hj
  · rw [hwj j hj]; exact hf4 _ (by omega)
  · rw [hsq j (by omega)]
    show okb _ (w j).toNatClampNeg = true
    rw [hwj j hj]
    have h1 := (fx_back (hv (2 * p - 1 - j) (by omega)).2.2).1
    rw [show 2 * p - j = 2 * p - 1 - j + 1 by omega, sq_s]
    exact h1
  · rw [hsq (2 * p) (Nat.le_refl _), Nat.sub_self]; rfl
