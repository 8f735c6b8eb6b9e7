/-! ===== the kinds together, 3: objects ===== -/
theorem L_nI {n : Nat} (h : n < 9223372036854775808) : (lN n).toInt = n := pk_lT h
theorem L_of {x : Int64} (h : 0 ≤ x.toInt) : ∃ k : Nat, k < 9223372036854775808 ∧ x = lN k ∧ x.toInt = k := by
  obtain ⟨k, h1, rfl⟩ := pk_lOf (x := x) (by rw [i_lt64]; have : (0 : Int64).toInt = 0 := by decide
                                             omega)
  exact ⟨k, h1, rfl, L_nI h1⟩
theorem rgL {α : Type} {p hi : Int64} {n : Nat} {x y : α} (hn : hi = lN n) (h : n < 9223372036854775808) (h1 : 0 < n) : (if p < (0 : Int64) then x else if p < hi then y else x) = if 0 ≤ p.toInt ∧ p.toInt ≤ (n : Int) - 1 then y else x := by
  subst hn
  have z : (0 : Int64).toInt = 0 := by decide
  have e := L_nI h
  by_cases c1 : p < (0 : Int64)
  · rw [if_pos c1, if_neg]
    rw [i_lt64, z] at c1; omega
  · by_cases c2 : p < lN n
    · rw [if_neg c1, if_pos c2, if_pos]
      rw [i_lt64, z] at c1; rw [i_lt64, e] at c2; omega
    · rw [if_neg c1, if_neg c2, if_neg]
      rw [i_lt64, e] at c2; omega
theorem L_m1 {n : Nat} (h : n < 9223372036854775808) (h1 : 0 < n) : (lN n - (1 : Int64)).toInt = (n : Int) - 1 := by
  rw [L1, Q_sub (by omega), L_nI (by omega)]; omega
section OBJ
variable {B T F K P C V : Nat → Int64} {Q : Nat → Int32}
theorem x_holds {G : Gm} {b L Z L' Z' : Nat → Int32} {v : Int32} {p : Prop} (h : v_accepts (gf G) b L Z = some (v, L', Z')) (hv : v = 0 ∨ v = 1 ∧ p) : fX9_holdsObject b (gf G) L Z = some (v, L', Z') := by
  unfold fX9_holdsObject
  rw [h, Option.bind_some, if_pos (v01 hv)]
theorem u_holds {G : Gm} (hG : gok G) {of : Nat → Int32} (hof : gof G of) (b L Z S : Nat → Int32) : ∃ (v : Int32) (L' Z' S' : Nat → Int32), fX9_holdsObject b (gf G) L Z = some (v, L', Z') ∧ fX10_isGood (nI G.1) S b of = some (v, S') ∧ (v = 0 ∨ v = 1 ∧ gac G b) := by
  obtain ⟨v, L', Z', S', e1, e2, e3⟩ := u_acc hG hof b L Z S
  exact ⟨v, L', Z', S', x_holds e1 e3, e2, e3⟩
theorem op_isObj {G : Gm} (hG : gok G) {of : Nat → Int32} (hof : gof G of) (b L Z S : Nat → Int32) : ∃ v L' Z' S', fX9_isObject b (gf G) L Z = some (v, L', Z') ∧ fX10_isObject (nI G.1) S b of = some (v, S') := by
  obtain ⟨v, L', Z', S', e1, e2, e3⟩ := u_holds hG hof b L Z S
  unfold fX9_isObject fX10_isObject
  rw [e1, e2, Option.bind_some, Option.bind_some]
  dsimp only
  by_cases c : v = 0
  · rw [if_pos c, if_pos c]; exact ⟨_, _, _, _, rfl, rfl⟩
  · rw [if_neg c, if_neg c]; exact ⟨_, _, _, _, rfl, rfl⟩
theorem op_rank (ht : TT B T F K P C Q V) {G : Gm} (hG : gok G) {of : Nat → Int32} (hof : gof G of) (b L Z S M : Nat → Int32) (R SL : Nat → Int64) : ∃ v L' R' Z' M' SL' S', fX9_rank b (gf G) L R Z B Q V = some (v, L', R', Z') ∧ fX10_rank (nI G.1) M SL S b K T C F of P = some (v, M', SL', S') := by
  obtain ⟨hB, hQ, hT, hF, hK, hP, hC, hV⟩ := ht
  obtain ⟨v, L', Z', S', e1, e2, e3⟩ := u_holds hG hof b L Z S
  unfold fX9_rank fX10_rank
  rw [e1, e2, Option.bind_some, Option.bind_some]
  dsimp only
  rcases e3 with rfl | ⟨rfl, e3⟩
  · rw [if_pos rfl, if_pos rfl]; exact ⟨_, _, _, _, _, _, _, rfl, rfl⟩
  · obtain ⟨r, L2, R2, Z2, M2, SL2, S2, -, f1, f2⟩ := u_rank hB hQ hT hF hK hP hC hV hG hof e3 L' Z' S' M R SL
    rw [if_neg (by decide), if_neg (by decide), f1, f2, Option.bind_some, Option.bind_some]
    exact ⟨_, _, _, _, _, _, _, rfl, rfl⟩
theorem laid (ht : TT B T F K P C Q V) {G : Gm} (hG : gok G) {of : Nat → Int32} (hof : gof G of) {r : Nat} (hr : r < gz G) (b d L Z S M m : Nat → Int32) (R SL : Nat → Int64) : ∃ c b' L' R' Z' w M' m' SL' S', fX9_layDown b d (gf G) L R Z B Q V (lN r) = some (c, b', L', R', Z', w) ∧ fX10_makes (nI G.1) M m SL S K T C of P (lN r) = some (M', m', SL', S') ∧ fX10_stores (nI G.1) b m' of = some (c, b') := by
  obtain ⟨hB, hQ, hT, hF, hK, hP, hC, hV⟩ := ht
  have g3 := (gz_ok hG).2.2
  obtain ⟨w, w', L', R', Z', M', SL', S', e1, e2, e3⟩ := uu_lay hB hQ hT hK hP hC hV hG hof hr d m L Z S M R SL
  refine ⟨chg w b (gl G), fl w b (gl G), L', R', Z', w, M', w', SL', S', ?_, e2, ?_⟩
  · unfold fX9_layDown
    rw [e1, Option.bind_some, q_take g3 (gf_w hG).1, Option.bind_some]
    rcases chg_01 w b (gl G) with h | h <;> rw [h]
    · exact if_pos and1_0
    · exact if_pos and1_1
  · rw [q_stores g3 (u_long hG hof), fl_cong (fun j hj => (e3 j hj).symm), chg_cong (fun j hj => (e3 j hj).symm)]
theorem op_unrank (ht : TT B T F K P C Q V) {G : Gm} (hG : gok G) {of : Nat → Int32} (hof : gof G of) (b d L Z S M m : Nat → Int32) (R SL : Nat → Int64) (p : Int64) : ∃ v b' L' R' Z' w M' m' SL' S', fX9_unrank b d (gf G) L R Z B Q V p = some (v, b', L', R', Z', w) ∧ fX10_unrank (nI G.1) b M m SL S K T C F of P p = some (v, b', M', m', SL', S') := by
  obtain ⟨g1, g2, g3⟩ := gz_ok hG
  have hm := u_many ht.2.2.1 ht.2.2.2.1 ht.2.2.2.2.1 ht.2.2.2.2.2.1 ht.2.2.2.2.2.2.1 hG hof
  unfold fX9_unrank fX10_unrank
  rw [rgL (gf_w hG).2.1 (by omega) g1, hm, Option.bind_some, wb1 (a := 0) (b := (gz G : Int) - 1) (by decide) (L_m1 (by omega) g1)]
  by_cases c : 0 ≤ p.toInt ∧ p.toInt ≤ (gz G : Int) - 1
  · rw [if_pos c, if_pos c]
    obtain ⟨r, h1, rfl, h2⟩ := L_of c.1
    obtain ⟨v, b', L', R', Z', w, M', m', SL', S', e1, e2, e3⟩ := laid ht hG hof (r := r) (by omega) b d L Z S M m R SL
    rw [e1, e2, Option.bind_some, Option.bind_some]
    dsimp only
    rw [e3, Option.bind_some]
    by_cases c2 : v = 0
    · rw [if_pos c2, if_pos c2]; exact ⟨_, _, _, _, _, _, _, _, _, _, rfl, rfl⟩
    · rw [if_neg c2, if_neg c2]; exact ⟨_, _, _, _, _, _, _, _, _, _, rfl, rfl⟩
  · rw [if_neg c, if_neg c]; exact ⟨_, _, _, _, _, _, _, _, _, _, rfl, rfl⟩
theorem op_step (ht : TT B T F K P C Q V) {G : Gm} (hG : gok G) {of : Nat → Int32} (hof : gof G of) (b d L Z S M m : Nat → Int32) (R SL : Nat → Int64) (p : Int32) : ∃ v b' L' R' Z' w M' m' SL' S', fX9_step b d (gf G) L R Z B Q V p = some (v, b', L', R', Z', w) ∧ fX10_step (nI G.1) b M m SL S K T C F of P p = some (v, b', M', m', SL', S') := by
  obtain ⟨g1, g2, g3⟩ := gz_ok hG
  have hm := u_many ht.2.2.1 ht.2.2.2.1 ht.2.2.2.2.1 ht.2.2.2.2.2.1 ht.2.2.2.2.2.2.1 hG hof
  have ht' := ht
  obtain ⟨hB, hQ, hT, hF, hK, hP, hC, hV⟩ := ht'
  unfold fX9_step fX10_step
  rw [rg2 (a := -1000000) (b := 1000000) (by decide) (by decide), wb1 (a := -1000000) (b := 1000000) (by decide) (by decide), i_w]
  by_cases c : -1000000 ≤ p.toInt ∧ p.toInt ≤ 1000000
  · rw [if_pos c, if_pos c]
    obtain ⟨v, L', Z', S', e1, e2, e3⟩ := u_holds hG hof b L Z S
    rw [e1, e2, Option.bind_some, Option.bind_some]
    dsimp only
    rcases e3 with rfl | ⟨rfl, e3⟩
    · rw [if_neg (by decide), if_neg (by decide)]; exact ⟨_, _, _, _, _, _, _, _, _, _, rfl, rfl⟩
    · obtain ⟨r, L2, R2, Z2, M2, SL2, S2, -, f1, f2⟩ := u_rank hB hQ hT hF hK hP hC hV hG hof e3 L' Z' S' M R SL
      rw [if_pos (by decide), if_pos (by decide), f1, f2, Option.bind_some, Option.bind_some, hm, Option.bind_some]
      dsimp only
      generalize lN r + p.toInt64 = X
      rw [rgL (gf_w hG).2.1 (by omega) g1, wb1 (a := 0) (b := (gz G : Int) - 1) (by decide) (L_m1 (by omega) g1)]
      by_cases c2 : 0 ≤ X.toInt ∧ X.toInt ≤ (gz G : Int) - 1
      · rw [if_pos c2, if_pos c2]
        obtain ⟨r, h1, rfl, h2⟩ := L_of c2.1
        obtain ⟨v, b', L', R', Z', w, M', m', SL', S', e1, e2, e3⟩ := laid ht hG hof (r := r) (by omega) b d L2 Z2 S2 M2 m R2 SL2
        rw [e1, e2, Option.bind_some, Option.bind_some]
        dsimp only
        rw [e3, Option.bind_some]
        exact ⟨_, _, _, _, _, _, _, _, _, _, rfl, rfl⟩
      · rw [if_neg c2, if_neg c2]; exact ⟨_, _, _, _, _, _, _, _, _, _, rfl, rfl⟩
  · rw [if_neg c, if_neg c]; exact ⟨_, _, _, _, _, _, _, _, _, _, rfl, rfl⟩
theorem L_half (y : Int64) : ∃ n : Nat, n < 9223372036854775808 ∧ (y.toUInt64 >>> ((1 : Int32).toInt64.toUInt64 &&& Int64.toUInt64 63)).toInt64 = lN n := by
  have e : y = lN y.toUInt64.toNat := by
    apply Int64.toBitVec_inj.mp
    apply BitVec.eq_of_toNat_eq
    show y.toBitVec.toNat = y.toBitVec.toNat % 18446744073709551616
    rw [Nat.mod_eq_of_lt y.toBitVec.isLt]
  have h : y.toUInt64.toNat < 18446744073709551616 := y.toBitVec.isLt
  refine ⟨y.toUInt64.toNat / 2, by omega, ?_⟩
  have h2 := Q_ushr y.toUInt64.toNat h
  rw [← e] at h2
  exact h2
theorem op_draw (ht : TT B T F K P C Q V) {G : Gm} (hG : gok G) {of : Nat → Int32} (hof : gof G of) (b d L Z S M m : Nat → Int32) (R SL : Nat → Int64) (p : Int64) : ∃ v b' L' R' Z' w M' m' SL' S', fX9_draw b d (gf G) L R Z B Q V p = some (v, b', L', R', Z', w) ∧ fX10_draw (nI G.1) b M m SL S K T C F of P p = some (v, b', M', m', SL', S') := by
  obtain ⟨g1, g2, g3⟩ := gz_ok hG
  have hm := u_many ht.2.2.1 ht.2.2.2.1 ht.2.2.2.2.1 ht.2.2.2.2.2.1 ht.2.2.2.2.2.2.1 hG hof
  unfold fX9_draw fX10_draw
  rw [hm, Option.bind_some, (gf_w hG).2.1]
  generalize p * (6364136223846793005 : Int64) + (1442695040888963407 : Int64) = x
  generalize x ^^^ (x.toUInt64 >>> ((33 : Int32).toInt64.toUInt64 &&& Int64.toUInt64 63)).toInt64 = y
  obtain ⟨n, hn, e⟩ := L_half y
  rw [e, q_rmd hn g1 (by omega), Option.bind_some, Q_rem hn g1 (by omega), if_neg (by rw [L0, Q_eq (by omega) (by omega)]; omega)]
  obtain ⟨v, b', L', R', Z', w, M', m', SL', S', e1, e2, e3⟩ := laid ht hG hof (r := n % gz G) (Nat.mod_lt _ g1) b d L Z S M m R SL
  rw [e1, e2, Option.bind_some, Option.bind_some]
  dsimp only
  rw [e3, Option.bind_some]
  exact ⟨_, _, _, _, _, _, _, _, _, _, rfl, rfl⟩
def dsn (b : Nat → Int32) : Nat → Nat
  | 0 => 0
  | i + 1 => dsn b i + if b i ≤ b (i + 1) then 0 else 1
theorem op_desc {G : Gm} (hG : gok G) {of : Nat → Int32} (hof : gof G of) (b L Z S : Nat → Int32) : ∃ v L' Z' S', fX9_descents b (gf G) L Z = some (v, L', Z') ∧ fX10_descents (nI G.1) S b of = some (v, S') := by
  obtain ⟨g1, g2, g3⟩ := gz_ok hG
  obtain ⟨v, L', Z', S', e1, e2, e3⟩ := u_holds hG hof b L Z S
  unfold fX9_descents fX10_descents
  rw [e1, e2, Option.bind_some, Option.bind_some]
  dsimp only
  rcases e3 with rfl | ⟨rfl, e3⟩
  · rw [if_neg (by decide), if_neg (by decide)]; exact ⟨_, _, _, _, rfl, rfl⟩
  · rw [if_pos (by decide), if_pos (by decide)]
    have hl := u_long hG hof
    have hw := (gf_w hG).1
    generalize gl G = w at *
    have pr : ∀ i : Nat, 1 ≤ i → nI i - 1 = nI (i - 1) := fun i h => by rw [l1, q_sub (by omega)]
    have es : ∀ i : Nat, 1 ≤ i → dsn b i = dsn b (i - 1) + if b (i - 1) ≤ b i then 0 else 1 := fun i h => by
      obtain ⟨j, rfl⟩ : ∃ j, i = j + 1 := ⟨i - 1, by omega⟩
      rfl
    have ej : ∀ k : Nat, nI k + 1 = nI (k + 1) := fun k => by rw [l1, q_add]
    obtain ⟨x, y, k, ⟨rfl, rfl, -⟩, h⟩ := lpG2 (fX9_descents_L14 b (gf G) (1, L', Z')) (fun i x y => x = nI (dsn b (i - 1)) ∧ y = nI i ∧ 1 ≤ i) (max w 1) (by
      rintro i x y hi ⟨rfl, rfl, h1⟩
      refine ⟨_, _, ⟨rfl, rfl, by omega⟩, fun g => ?_⟩
      unfold fX9_descents_L14 fX9_descents_B49
      rw [hw, if_neg (by rw [q_le (by omega) (by omega)]; omega), q_at (by omega) (by omega), Option.bind_some, pr i h1, q_at (by omega) (by omega), Option.bind_some, ej, ej, Nat.add_sub_cancel, es i h1]
      by_cases c : b (i - 1) ≤ b i
      · rw [if_pos c, if_pos c]; rfl
      · rw [if_neg c, if_neg c]) (max w 1 - 1) 1 (nI (dsn b 0)) (nI 1) FU (by omega) (FU_gt (by omega)) ⟨rfl, rfl, by omega⟩
    obtain ⟨x, y, k', ⟨rfl, rfl, -⟩, h'⟩ := lpG2 (fX10_descents_L14 (nI G.1) b of (1, S')) (fun i x y => x = nI (dsn b (i - 1)) ∧ y = nI i ∧ 1 ≤ i) (max w 1) (by
      rintro i x y hi ⟨rfl, rfl, h1⟩
      refine ⟨_, _, ⟨rfl, rfl, by omega⟩, fun g => ?_⟩
      unfold fX10_descents_L14 fX10_descents_B45
      rw [hl, Option.bind_some, if_neg (by rw [q_le (by omega) (by omega)]; omega), q_cl (a := i) (by omega), if_neg (show ¬ (nI i < 0 ∨ 60 ≤ i) by rw [l0, q_lt (by omega) (by omega)]; omega), pr i h1, q_cl (a := i - 1) (by omega), if_neg (show ¬ (nI (i - 1) < 0 ∨ 60 ≤ i - 1) by rw [l0, q_lt (by omega) (by omega)]; omega), ej, Nat.add_sub_cancel, es i h1]
      by_cases c : b (i - 1) ≤ b i
      · rw [if_pos c, if_pos c, l0, q_add]
      · rw [if_neg c, if_neg c, ej]) (max w 1 - 1) 1 (nI (dsn b 0)) (nI 1) FU (by omega) (FU_gt (by omega)) ⟨rfl, rfl, by omega⟩
    refine ⟨nI (dsn b (max w 1 - 1)), L', Z', S', ?_, ?_⟩
    · refine Eq.trans (by rfl) (h.trans ?_)
      unfold fX9_descents_L14
      rw [hw, if_pos (by rw [q_le (by omega) (by omega)]; omega)]
    · refine Eq.trans (by rfl) (h'.trans ?_)
      unfold fX10_descents_L14
      rw [hl, Option.bind_some, if_pos (by rw [q_le (by omega) (by omega)]; omega)]
theorem op_param {G : Gm} (hG : gok G) {of : Nat → Int32} (hof : gof G of) (p : Int32) : ∃ v, fX9_parameter (gf G) p = some v ∧ fX10_parameter of p = some v := by
  unfold fX9_parameter fX9_parameter_B9 fX10_parameter
  rw [wb0 (a := 0) (b := 3) (by decide) (by decide), i_w]
  have z0 : (0 : Int32).toInt = 0 := by decide
  have z4 : (4 : Int32).toInt = 4 := by decide
  by_cases c : 0 ≤ p.toInt ∧ p.toInt ≤ 3
  · obtain ⟨i, rfl, -, hi⟩ := i_nat (by omega) c
    have : i < 4 := by omega
    rw [if_neg (by rw [i_lt, z0]; omega), if_pos (by rw [i_lt, z4]; omega), if_pos c, q_cl (by omega), if_neg (by rw [l0, q_lt (by omega) (by omega)]; omega), u_set hG i this, Option.bind_some]
    refine ⟨_, rfl, ?_⟩
    obtain ⟨k, a, b, c, d⟩ := G
    rw [gof_L4 hof i this]; rfl
  · rw [if_neg c]
    refine ⟨_, ?_, rfl⟩
    by_cases c1 : p < 0
    · rw [if_pos c1]
    · rw [if_neg c1, if_neg]
      rw [i_lt, z0] at c1; rw [i_lt, z4]; omega
theorem op_put (b : Nat → Int32) (p q : Int32) : ∃ v b', fX9_put b p q = some (v, b') ∧ fX10_put b p q = some (v, b') := by
  unfold fX9_put fX10_put
  have z0 : (0 : Int32).toInt = 0 := by decide
  have z60 : (60 : Int32).toInt = 60 := by decide
  rw [rg2 (a := -1000) (b := 1000) (by decide) (by decide), wb0 (a := 0) (b := 59) (by decide) (by decide), wb1 (a := -1000) (b := 1000) (by decide) (by decide), i_w, i_w]
  by_cases c : 0 ≤ p.toInt ∧ p.toInt ≤ 59
  · obtain ⟨i, rfl, -, hi⟩ := i_nat (by omega) c
    rw [if_neg (by rw [i_lt, z0]; omega), if_neg (by rw [i_le, z60]; omega), if_pos c, q_cl (by omega)]
    by_cases c2 : -1000 ≤ q.toInt ∧ q.toInt ≤ 1000
    · rw [if_pos c2, if_pos c2, q_at (by omega) (by omega), Option.bind_some, q_set (by omega) (by omega), Option.bind_some, if_neg (by rw [l0, q_lt (by omega) (by omega)]; omega)]
      exact ⟨_, _, rfl, rfl⟩
    · rw [if_neg c2, if_neg c2]; exact ⟨_, _, rfl, rfl⟩
  · rw [if_neg c]
    refine ⟨_, _, ?_, rfl⟩
    by_cases c1 : p < 0
    · rw [if_pos c1]
    · rw [if_neg c1, if_pos]
      rw [i_lt, z0] at c1; rw [i_le, z60]; omega
theorem op_get (b : Nat → Int32) (p : Int32) : ∃ v, fX9_get b p = some v ∧ fX10_get b p = some v := by
  unfold fX9_get fX9_get_B10 fX10_get
  have z0 : (0 : Int32).toInt = 0 := by decide
  have z60 : (60 : Int32).toInt = 60 := by decide
  rw [wb0 (a := 0) (b := 59) (by decide) (by decide), i_w]
  by_cases c : 0 ≤ p.toInt ∧ p.toInt ≤ 59
  · obtain ⟨i, rfl, -, hi⟩ := i_nat (by omega) c
    rw [if_neg (by rw [i_lt, z0]; omega), if_pos (by rw [i_lt, z60]; omega), if_pos c, q_cl (by omega), q_at (by omega) (by omega), Option.bind_some, if_neg (by rw [l0, q_lt (by omega) (by omega)]; omega)]
    exact ⟨_, rfl, rfl⟩
  · rw [if_neg c]
    refine ⟨_, ?_, rfl⟩
    by_cases c1 : p < 0
    · rw [if_pos c1]
    · rw [if_neg c1, if_neg]
      rw [i_lt, z0] at c1; rw [i_lt, z60]; omega
end OBJ
