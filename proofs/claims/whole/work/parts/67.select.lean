/-! ===== the kinds together, 2: selecting ===== -/
theorem x_fac {n : Nat} (h1n : 1 ≤ n) (hn : n ≤ 20) : fX5_factorial (nI n) = some (lN (fc n)) := by
  unfold fX5_factorial
  obtain ⟨a, b, m, ⟨rfl, rfl⟩, h⟩ := lpG2 (fX5_factorial_L4 (nI n)) (fun i a b => a = lN (fc i) ∧ b = nI (i + 1)) n (by
    rintro i a b hi ⟨rfl, rfl⟩
    refine ⟨_, _, ⟨rfl, rfl⟩, fun g => ?_⟩
    unfold fX5_factorial_L4
    rw [if_neg (by rw [q_lt (by omega) (by omega)]; omega), q_i2l (by omega), Q_mul, Nat.mul_comm, ← fc_s, l1, q_add]) (n - 1) 1 (lN 1) (nI 2) FU (by omega) (FU_gt (by omega)) ⟨rfl, rfl⟩
  rw [L1, l2, h]
  unfold fX5_factorial_L4
  rw [if_pos (by rw [q_lt (by omega) (by omega)]; omega)]
theorem i_nat {p : Int32} {a b : Int} (ha : 0 ≤ a) (h : a ≤ p.toInt ∧ p.toInt ≤ b) : ∃ n : Nat, p = nI n ∧ a ≤ n ∧ (n : Int) ≤ b := by
  refine ⟨p.toNatClampNeg, i_of (by omega), ?_, ?_⟩ <;> rw [i_cl] <;> omega
theorem rg1 {α : Type} {p lo hi : Int32} {a b : Int} {x y : α} (ha : lo.toInt = a) (hb : hi.toInt = b) : (if p < lo then x else if hi < p then x else y) = if a ≤ p.toInt ∧ p.toInt ≤ b then y else x := by
  subst ha; subst hb
  by_cases c1 : p < lo
  · rw [if_pos c1, if_neg]
    rw [i_lt] at c1; omega
  · by_cases c2 : hi < p
    · rw [if_neg c1, if_pos c2, if_neg]
      rw [i_lt] at c2; omega
    · rw [if_neg c1, if_neg c2, if_pos]
      rw [i_lt] at c1 c2; omega
theorem rg2 {α : Type} {p lo hi : Int32} {a b : Int} {x y : α} (ha : lo.toInt = a) (hb : hi.toInt = b) : (if p < lo then x else if p ≤ hi then y else x) = if a ≤ p.toInt ∧ p.toInt ≤ b then y else x := by
  subst ha; subst hb
  by_cases c1 : p < lo
  · rw [if_pos c1, if_neg]
    rw [i_lt] at c1; omega
  · by_cases c2 : p ≤ hi
    · rw [if_neg c1, if_pos c2, if_pos]
      rw [i_lt] at c1; rw [i_le] at c2; omega
    · rw [if_neg c1, if_neg c2, if_neg]
      rw [i_le] at c2; omega
theorem wb0 {α : Type} {p : Int64} {lo hi : Int64} {a b : Int} {x y : Option α} (ha : lo.toInt = a) (hb : hi.toInt = b) : ((fX10_within p lo hi).bind fun r => if r = 0 then x else y) = if a ≤ p.toInt ∧ p.toInt ≤ b then y else x := by
  subst ha; subst hb
  by_cases c : lo.toInt ≤ p.toInt ∧ p.toInt ≤ hi.toInt
  · rw [w_yes (by rw [i_lt64]; omega) (by rw [i_lt64]; omega), Option.bind_some, if_pos c, if_neg (by decide)]
  · rw [w_no (by rw [i_lt64, i_lt64]; omega), Option.bind_some, if_neg c, if_pos rfl]
theorem wb1 {α : Type} {p : Int64} {lo hi : Int64} {a b : Int} {x y : Option α} (ha : lo.toInt = a) (hb : hi.toInt = b) : ((fX10_within p lo hi).bind fun r => if ¬ r = 0 then y else x) = if a ≤ p.toInt ∧ p.toInt ≤ b then y else x := by
  subst ha; subst hb
  by_cases c : lo.toInt ≤ p.toInt ∧ p.toInt ≤ hi.toInt
  · rw [w_yes (by rw [i_lt64]; omega) (by rw [i_lt64]; omega), Option.bind_some, if_pos c, if_pos (by decide)]
  · rw [w_no (by rw [i_lt64, i_lt64]; omega), Option.bind_some, if_neg c, if_neg (by decide)]
/-- the present family after a call: the old one, or a new object -/
def NF (G : Gm) (oF : Option Fm) (nw : Int32) (of : Nat → Int32) : Prop := ∃ G', gok G' ∧ nw = nI G'.1 ∧ gof G' of ∧ (oF = none ∧ G' = G ∨ oF = some (gf G'))
def SR (G : Gm) (X : Option (Int32 × Option Fm × (Nat → Int32) × (Nat → Int32) × (Nat → Int64) × (Nat → Int32) × (Nat → Int32))) (Y : Option (Int32 × Int32 × (Nat → Int32) × (Nat → Int32) × (Nat → Int32) × (Nat → Int32) × (Nat → Int64) × (Nat → Int32))) : Prop :=
  ∃ v oF b' L' R' Z' d' nw' M' m' of' SL' S', X = some (v, oF, b', L', R', Z', d') ∧ Y = some (v, nw', b', M', m', of', SL', S') ∧ NF G oF nw' of'
def TT (B T F K P C : Nat → Int64) (Q : Nat → Int32) (V : Nat → Int64) : Prop := TB B ∧ TQ Q ∧ TC T ∧ TF F ∧ TK K ∧ TP P ∧ TL C ∧ TK V
theorem sel_bad {G : Gm} (hG : gok G) {of : Nat → Int32} (hof : gof G of) {v : Int32} {b L Z d M m S : Nat → Int32} {R SL : Nat → Int64} : SR G (some (v, none, b, L, R, Z, d)) (some (v, nI G.1, b, M, m, of, SL, S)) :=
  ⟨v, none, b, L, R, Z, d, nI G.1, M, m, of, SL, S, rfl, rfl, G, hG, rfl, hof, Or.inl ⟨rfl, rfl⟩⟩
theorem gof_upd (of : Nat → Int32) (G : Gm) : gof G (upd (upd (upd (upd of 0 (nI G.2.1)) 1 (nI G.2.2.1)) 2 (nI G.2.2.2.1)) 3 (nI G.2.2.2.2)) :=
  ⟨by rw [upd_n (by omega), upd_n (by omega), upd_n (by omega), upd_s], by rw [upd_n (by omega), upd_n (by omega), upd_s], by rw [upd_n (by omega), upd_s], by rw [upd_s]⟩
theorem sel_core {B T F K P C V : Nat → Int64} {Q : Nat → Int32} (ht : TT B T F K P C Q V) {G : Gm} (hG : gok G) (b d L Z S M m of : Nat → Int32) (R SL : Nat → Int64) : ∃ b' L' R' Z' w M' m' of' SL' S', fX9_choose (gf G) b d L R Z B Q V = some (nI (gl G), b', L', R', Z', w) ∧ fX10_select b M m of SL S K T C P (nI G.1) (nI G.2.1) (nI G.2.2.1) (nI G.2.2.2.1) (nI G.2.2.2.2) = some (nI (gl G), nI G.1, b', M', m', of', SL', S') ∧ gof G of' := by
  obtain ⟨hB, hQ, hT, hF, hK, hP, hC, hV⟩ := ht
  obtain ⟨g1, g2, g3⟩ := gz_ok hG
  have hof := gof_upd of G
  obtain ⟨w, w', L', R', Z', M', SL', S', e1, e2, e3⟩ := uu_lay hB hQ hT hK hP hC hV hG hof g1 d m L Z S M R SL
  refine ⟨fl w b (gl G), L', R', Z', w, M', w', _, SL', S', ?_, ?_, hof⟩
  · unfold fX9_choose
    rw [L0, e1, Option.bind_some, q_take g3 (gf_w hG).1, Option.bind_some, (gf_w hG).1]
  · unfold fX10_select fX10_turnsTo
    rw [Option.bind_some]
    dsimp only
    rw [L0, e2, Option.bind_some]
    dsimp only
    rw [q_stores g3 (u_long hG hof), Option.bind_some, u_long hG hof, Option.bind_some, fl_cong (fun j hj => (e3 j hj).symm)]
theorem sel_ok {B T F K P C V : Nat → Int64} {Q : Nat → Int32} (ht : TT B T F K P C Q V) {G : Gm} {G' : Gm} (hG : gok G') (b d L Z S M m of : Nat → Int32) (R SL : Nat → Int64) : SR G ((fX9_choose (gf G') b d L R Z B Q V).bind fun r => some (r.1, some (gf G'), r.2.1, r.2.2.1, r.2.2.2.1, r.2.2.2.2.1, r.2.2.2.2.2)) ((fX10_select b M m of SL S K T C P (nI G'.1) (nI G'.2.1) (nI G'.2.2.1) (nI G'.2.2.2.1) (nI G'.2.2.2.2)).bind fun r => some (r.1, r.2.1, r.2.2.1, r.2.2.2.1, r.2.2.2.2.1, r.2.2.2.2.2.1, r.2.2.2.2.2.2.1, r.2.2.2.2.2.2.2)) := by
  obtain ⟨b', L', R', Z', w, M', m', of', SL', S', e1, e2, e3⟩ := sel_core ht hG b d L Z S M m of R SL
  rw [e1, e2]
  exact ⟨_, _, _, _, _, _, _, _, _, _, _, _, _, rfl, rfl, G', hG, rfl, e3, Or.inr rfl⟩
theorem op_selS {B T F K P C V : Nat → Int64} {Q : Nat → Int32} (ht : TT B T F K P C Q V) {G : Gm} (hG : gok G) {of : Nat → Int32} (hof : gof G of) (b d L Z S M m : Nat → Int32) (R SL : Nat → Int64) (p1 p2 p3 : Int32) : SR G (fX9_selectSubsets b d L R Z B Q V p1 p2 p3) (fX10_selectSubsets (nI G.1) b M m of SL S K T C P p1 p2 p3) := by
  unfold fX9_selectSubsets fX10_selectSubsets fX10_selectSubsets_B47
  rw [rg1 (a := 0) (b := 60) (by decide) (by decide), rg1 (a := 0) (b := p1.toInt) (by decide) rfl, rg2 (a := 0) (b := 2) (by decide) (by decide), wb0 (a := 0) (b := 60) (by decide) (by decide), wb0 (a := 0) (b := p1.toInt) (by decide) (i_w p1), wb0 (a := 0) (b := 2) (by decide) (by decide), i_w, i_w, i_w]
  by_cases c1 : 0 ≤ p1.toInt ∧ p1.toInt ≤ 60
  · rw [if_pos c1, if_pos c1]
    by_cases c2 : 0 ≤ p2.toInt ∧ p2.toInt ≤ p1.toInt
    · rw [if_pos c2, if_pos c2]
      by_cases c3 : 0 ≤ p3.toInt ∧ p3.toInt ≤ 2
      · rw [if_pos c3, if_pos c3]
        obtain ⟨n, rfl, n1, n2⟩ := i_nat (by omega) c1
        rw [i_nI (by omega)] at c2
        obtain ⟨k, rfl, k1, k2⟩ := i_nat (by omega) c2
        obtain ⟨o, rfl, o1, o2⟩ := i_nat (by omega) c3
        rw [q_bin ht.1 (by omega) (by omega)]
        dsimp only [fX6_init, fX3_init_X6, Option.bind_some]
        exact sel_ok ht (G' := (0, n, k, o, 0)) ⟨by omega, by omega, by omega, rfl⟩ b d L Z S M m of R SL
      · rw [if_neg c3, if_neg c3]; exact sel_bad hG hof
    · rw [if_neg c2, if_neg c2]; exact sel_bad hG hof
  · rw [if_neg c1, if_neg c1]; exact sel_bad hG hof
theorem op_selP {B T F K P C V : Nat → Int64} {Q : Nat → Int32} (ht : TT B T F K P C Q V) {G : Gm} (hG : gok G) {of : Nat → Int32} (hof : gof G of) (b d L Z S M m : Nat → Int32) (R SL : Nat → Int64) (p1 p2 : Int32) : SR G (fX9_selectPermutations b d L R Z B Q V p1 p2) (fX10_selectPermutations (nI G.1) b M m of SL S K T C P p1 p2) := by
  unfold fX9_selectPermutations fX10_selectPermutations fX10_selectPermutations_B34
  rw [rg1 (a := 1) (b := 20) (by decide) (by decide), rg2 (a := 0) (b := 1) (by decide) (by decide), wb0 (a := 1) (b := 20) (by decide) (by decide), wb0 (a := 0) (b := 1) (by decide) (by decide), i_w, i_w]
  by_cases c1 : 1 ≤ p1.toInt ∧ p1.toInt ≤ 20
  · rw [if_pos c1, if_pos c1]
    by_cases c2 : 0 ≤ p2.toInt ∧ p2.toInt ≤ 1
    · rw [if_pos c2, if_pos c2]
      obtain ⟨n, rfl, n1, n2⟩ := i_nat (by omega) c1
      obtain ⟨k, rfl, k1, k2⟩ := i_nat (by omega) c2
      rw [x_fac (by omega) (by omega)]
      dsimp only [fX5_init, fX3_init_X5, Option.bind_some]
      exact sel_ok ht (G' := (1, n, k, 0, 0)) ⟨by omega, by omega, by omega, rfl, rfl⟩ b d L Z S M m of R SL
    · rw [if_neg c2, if_neg c2]; exact sel_bad hG hof
  · rw [if_neg c1, if_neg c1]; exact sel_bad hG hof
theorem x_wordsOf {B : Nat → Int64} (hB : TB B) {n k : Nat} (hn : n ≤ 20) (hk : k = 1 ∨ k = 2) : fX9_wordsOf B (nI n) (nI k) = some (gf (2, n, k, 0, 0)) := by
  unfold fX9_wordsOf
  rw [l2, q_mul, l0, x_we hB hk (by omega) (by omega) (by omega), Option.bind_some]
  dsimp only [fX8_init, fX3_init_X8, Option.bind_some]
  rw [l2, q_mul]; rfl
theorem x_treesOf {B : Nat → Int64} (hB : TK B) {n : Nat} (hn : n ≤ 30) : fX9_treesOf B (nI n) = some (gf (3, n, 0, 0, 0)) := by
  unfold fX9_treesOf
  rw [x_trees hB hn, Option.bind_some]
  dsimp only [fX7_init, fX3_init_X7, Option.bind_some]
  rfl
theorem op_selW {B T F K P C V : Nat → Int64} {Q : Nat → Int32} (ht : TT B T F K P C Q V) {G : Gm} (hG : gok G) {of : Nat → Int32} (hof : gof G of) (b d L Z S M m : Nat → Int32) (R SL : Nat → Int64) (p1 p2 : Int32) : SR G (fX9_selectWords b d L R Z B Q V p1 p2) (fX10_selectWords (nI G.1) b M m of SL S K T C P p1 p2) := by
  unfold fX9_selectWords fX10_selectWords fX10_selectWords_B36
  rw [rg1 (a := 1) (b := 20) (by decide) (by decide), rg2 (a := 1) (b := 2) (by decide) (by decide), wb0 (a := 1) (b := 20) (by decide) (by decide), wb0 (a := 1) (b := 2) (by decide) (by decide), i_w, i_w]
  by_cases c1 : 1 ≤ p1.toInt ∧ p1.toInt ≤ 20
  · rw [if_pos c1, if_pos c1]
    by_cases c2 : 1 ≤ p2.toInt ∧ p2.toInt ≤ 2
    · rw [if_pos c2, if_pos c2]
      obtain ⟨n, rfl, n1, n2⟩ := i_nat (by omega) c1
      obtain ⟨k, rfl, k1, k2⟩ := i_nat (by omega) c2
      rw [x_wordsOf ht.1 (by omega) (by omega), Option.bind_some]
      exact sel_ok ht (G' := (2, n, k, 0, 0)) ⟨by omega, by omega, by omega, rfl, rfl⟩ b d L Z S M m of R SL
    · rw [if_neg c2, if_neg c2]; exact sel_bad hG hof
  · rw [if_neg c1, if_neg c1]; exact sel_bad hG hof
theorem op_selT {B T F K P C V : Nat → Int64} {Q : Nat → Int32} (ht : TT B T F K P C Q V) {G : Gm} (hG : gok G) {of : Nat → Int32} (hof : gof G of) (b d L Z S M m : Nat → Int32) (R SL : Nat → Int64) (p1 : Int32) : SR G (fX9_selectTrees b d L R Z B Q V p1) (fX10_selectTrees (nI G.1) b M m of SL S K T C P p1) := by
  unfold fX9_selectTrees fX10_selectTrees
  rw [rg2 (a := 1) (b := 30) (by decide) (by decide), wb0 (a := 1) (b := 30) (by decide) (by decide), i_w]
  by_cases c1 : 1 ≤ p1.toInt ∧ p1.toInt ≤ 30
  · rw [if_pos c1, if_pos c1]
    obtain ⟨n, rfl, n1, n2⟩ := i_nat (by omega) c1
    rw [x_treesOf ht.2.2.2.2.2.2.2 (by omega), Option.bind_some]
    exact sel_ok ht (G' := (3, n, 0, 0, 0)) ⟨by omega, by omega, rfl, rfl, rfl⟩ b d L Z S M m of R SL
  · rw [if_neg c1, if_neg c1]; exact sel_bad hG hof
theorem op_selR {B T F K P C V : Nat → Int64} {Q : Nat → Int32} (ht : TT B T F K P C Q V) {G : Gm} (hG : gok G) {of : Nat → Int32} (hof : gof G of) (b d L Z S M m : Nat → Int32) (R SL : Nat → Int64) (p1 p2 : Int32) : SR G (fX9_selectPartitions b d L R Z B Q V p1 p2) (fX10_selectPartitions (nI G.1) b M m of SL S K T C P p1 p2) := by
  unfold fX9_selectPartitions fX10_selectPartitions fX10_selectPartitions_B35
  rw [rg1 (a := 1) (b := 60) (by decide) (by decide), rg2 (a := 1) (b := p1.toInt) (by decide) rfl, wb0 (a := 1) (b := 60) (by decide) (by decide), wb0 (a := 1) (b := p1.toInt) (by decide) (i_w p1), i_w, i_w]
  by_cases c1 : 1 ≤ p1.toInt ∧ p1.toInt ≤ 60
  · rw [if_pos c1, if_pos c1]
    by_cases c2 : 1 ≤ p2.toInt ∧ p2.toInt ≤ p1.toInt
    · rw [if_pos c2, if_pos c2]
      obtain ⟨n, rfl, n1, n2⟩ := i_nat (by omega) c1
      rw [i_nI (by omega)] at c2
      obtain ⟨k, rfl, k1, k2⟩ := i_nat (by omega) c2
      have h9 := pt_lt (m := k) (s := n) (by omega)
      rw [q_parts ht.2.1 (by omega) (by omega), Option.bind_some, q_i2l h9]
      dsimp only [fX4_init, fX3_init_X4, Option.bind_some]
      exact sel_ok ht (G' := (4, n, k, 0, 0)) ⟨by omega, by omega, by omega, by omega, rfl, rfl⟩ b d L Z S M m of R SL
    · rw [if_neg c2, if_neg c2]; exact sel_bad hG hof
  · rw [if_neg c1, if_neg c1]; exact sel_bad hG hof
theorem x_noLet (p : Int32) : fX9_isNoLetterCount p = some (if 0 ≤ p.toInt ∧ p.toInt ≤ 20 then 0 else 1) := by
  unfold fX9_isNoLetterCount fX9_isNoLetterCount_B10
  rw [rg2 (a := 0) (b := 20) (by decide) (by decide)]
  by_cases c : 0 ≤ p.toInt ∧ p.toInt ≤ 20
  · rw [if_pos c, if_pos c]
  · rw [if_neg c, if_neg c]
theorem op_selA {B T F K P C V : Nat → Int64} {Q : Nat → Int32} (ht : TT B T F K P C Q V) {G : Gm} (hG : gok G) {of : Nat → Int32} (hof : gof G of) (b d L Z S M m : Nat → Int32) (R SL : Nat → Int64) (p1 p2 p3 p4 : Int32) : SR G (fX9_selectArrangements b d L R Z B Q V p1 p2 p3 p4) (fX10_selectArrangements (nI G.1) b M m of SL S K T C P p1 p2 p3 p4) := by
  unfold fX9_selectArrangements fX10_selectArrangements fX10_selectArrangements_B53 fX10_selectArrangements_B54 fX10_selectArrangements_B93
  rw [wb0 (a := 0) (b := 20) (by decide) (by decide), wb0 (a := 0) (b := 20) (by decide) (by decide), wb0 (a := 0) (b := 20) (by decide) (by decide), wb0 (a := 0) (b := 20) (by decide) (by decide), i_w, i_w, i_w, i_w, x_noLet, x_noLet, x_noLet, x_noLet, Option.bind_some, if_pos (show (0 : Int32) = 0 from rfl), if_neg (show ¬ (1 : Int32) = 0 by decide)]
  by_cases c1 : 0 ≤ p1.toInt ∧ p1.toInt ≤ 20
  · rw [if_pos c1, if_pos c1, if_neg (show ¬ ¬ (0 : Int32) = 0 by decide), Option.bind_some]
    by_cases c2 : 0 ≤ p2.toInt ∧ p2.toInt ≤ 20
    · rw [if_pos c2, if_pos c2, if_neg (show ¬ ¬ (0 : Int32) = 0 by decide), Option.bind_some]
      by_cases c3 : 0 ≤ p3.toInt ∧ p3.toInt ≤ 20
      · rw [if_pos c3, if_pos c3, if_neg (show ¬ ¬ (0 : Int32) = 0 by decide), Option.bind_some]
        by_cases c4 : 0 ≤ p4.toInt ∧ p4.toInt ≤ 20
        · rw [if_pos c4, if_pos c4, if_pos (show (0 : Int32) = 0 from rfl)]
          obtain ⟨x1, rfl, -, u1⟩ := i_nat (by omega) c1
          obtain ⟨x2, rfl, -, u2⟩ := i_nat (by omega) c2
          obtain ⟨x3, rfl, -, u3⟩ := i_nat (by omega) c3
          obtain ⟨x4, rfl, -, u4⟩ := i_nat (by omega) c4
          rw [q_add, q_add, q_add, rg2 (a := 1) (b := 20) (by decide) (by decide), wb0 (a := 1) (b := 20) (by decide) (by decide), i_w, i_nI (by omega)]
          by_cases c5 : 1 ≤ ((x1 + x2 + x3 + x4 : Nat) : Int) ∧ ((x1 + x2 + x3 + x4 : Nat) : Int) ≤ 20
          · rw [if_pos c5, if_pos c5, x_arr ht.1 (by omega), Option.bind_some]
            dsimp only [fX1_init, fX3_init_X1, Option.bind_some]
            rw [q_add, q_add, q_add]
            exact sel_ok ht (G' := (5, x1, x2, x3, x4)) ⟨by omega, by omega⟩ b d L Z S M m of R SL
          · rw [if_neg c5, if_neg c5]; exact sel_bad hG hof
        · rw [if_neg c4, if_neg c4, if_neg (show ¬ (1 : Int32) = 0 by decide)]; exact sel_bad hG hof
      · rw [if_neg c3, if_neg c3, if_pos (show ¬ (1 : Int32) = 0 by decide)]; exact sel_bad hG hof
    · rw [if_neg c2, if_neg c2, if_pos (show ¬ (1 : Int32) = 0 by decide)]; exact sel_bad hG hof
  · rw [if_neg c1, if_neg c1, if_pos (show ¬ (1 : Int32) = 0 by decide)]; exact sel_bad hG hof
