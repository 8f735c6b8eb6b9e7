/-! ===== the kinds together, 5: the archive ===== -/
def tpr (X : Nat → Gm × Nat) : Nat → Nat
  | 0 => 1
  | e + 1 => tpr X e * gz (X e).1
def CE (LP : List Nat) (FP : Nat → Fm) (fa : Nat → Option Nat) (pl : Nat → Int64) (X : Nat → Gm × Nat) (u : Nat) : Prop := ∀ e, e < u → gok (X e).1 ∧ (X e).2 < gz (X e).1 ∧ (∃ a, fa e = some a ∧ a ∈ LP ∧ FP a = gf (X e).1) ∧ pl e = lN (X e).2
def ME (eF eO : Nat → Int32) (eR : Nat → Int64) (X : Nat → Gm × Nat) (u : Nat) : Prop := ∀ e, e < u → eF e = nI (X e).1.1 ∧ (∀ i, i < 4 → eO (4 * e + i) = nI (gp (X e).1 i)) ∧ eR e = lN (X e).2
/-- the two archives hold the same entries -/
def RA (LP : List Nat) (FP : Nat → Fm) (us : Int32) (pr : Int64) (fa : Nat → Option Nat) (pl : Nat → Int64) (em : Int32) (eF eO : Nat → Int32) (eR : Nat → Int64) : Prop := ∃ (X : Nat → Gm × Nat) (u : Nat), u ≤ 10 ∧ us = nI u ∧ em = nI u ∧ pr = lN (tpr X u) ∧ tpr X u ≤ 4611686018427387904 ∧ CE LP FP fa pl X u ∧ ME eF eO eR X u
theorem x_famAt {LP : List Nat} {FP : Nat → Fm} {fa : Nat → Option Nat} {pl : Nat → Int64} {X : Nat → Gm × Nat} {u e : Nat} (hu : u ≤ 10) (he : e < u) : fX0_familyAt (nI u) fa (nI e) = some (fa e) := by
  unfold fX0_familyAt fX0_familyAt_B30 fX0_familyAt_B31
  rw [if_neg (nI_neg (by omega)), if_neg (by rw [q_le (by omega) (by omega)]; omega), if_neg (by rw [show (10 : Int32) = nI 10 from rfl, q_le (by omega) (by omega)]; omega), q_cl (by omega), if_neg (by rw [l0, q_lt (by omega) (by omega)]; omega)]
theorem x_plAt {pl : Nat → Int64} {e : Nat} (he : e < 10) : fX0_placeAt pl (nI e) = some (pl e) := by
  unfold fX0_placeAt
  rw [q_atL he (by omega), Option.bind_some]
theorem x_sizeAt {LP : List Nat} {FP : Nat → Fm} {fa : Nat → Option Nat} {pl : Nat → Int64} {X : Nat → Gm × Nat} {u e : Nat} (hc : CE LP FP fa pl X u) (hu : u ≤ 10) (he : e < u) : fX0_sizeAt LP FP (nI u) fa (nI e) = some (lN (gz (X e).1)) := by
  obtain ⟨h1, h2, ⟨a, h3, h4, h5⟩, h6⟩ := hc e he
  unfold fX0_sizeAt
  rw [x_famAt (LP := LP) (FP := FP) (pl := pl) (X := X) hu he, Option.bind_some, h3]
  show (if a ∈ LP then some (FP a).2.2.2.1 else none) = _
  rw [if_pos h4, h5, (gf_w h1).2.1]
theorem m_entry {T F K P C : Nat → Int64} (hT : TC T) (hF : TF F) (hK : TK K) (hP : TP P) (hC : TL C) {eF eO : Nat → Int32} {eR : Nat → Int64} {X : Nat → Gm × Nat} {u e : Nat} (hm : ME eF eO eR X u) (hg : gok (X e).1) (hu : u ≤ 10) (he : e < u) : fX10_entryCount K T C eF eO F P (nI e) = some (lN (gz (X e).1)) := by
  obtain ⟨h1, h2, h3⟩ := hm e he
  have k0 : eO (4 * e) = nI (gp (X e).1 0) := h2 0 (by omega)
  have k1 := h2 1 (by omega)
  have k2 := h2 2 (by omega)
  have k3 := h2 3 (by omega)
  have g : ∀ i, i < 40 → ¬ (nI i < 0 ∨ 40 ≤ i) := fun i hi => by rw [l0, q_lt (by omega) (by omega)]; omega
  unfold fX10_entryCount
  rw [q_cl (a := e) (by omega), if_neg (by rw [l0, q_lt (by omega) (by omega)]; omega), l4, q_mul, l1, l2, l3, q_add, q_add, q_add, q_cl (a := 4 * e) (by omega), q_cl (a := 4 * e + 1) (by omega), q_cl (a := 4 * e + 2) (by omega), q_cl (a := 4 * e + 3) (by omega), if_neg (g _ (by omega)), if_neg (g _ (by omega)), if_neg (g _ (by omega)), if_neg (g _ (by omega)), h1, k0, k1, k2, k3]
  refine (congrArg (fun z => Option.bind z _) (u_count hT hF hK hP hC hg)).trans ?_
  rfl
theorem tpr_pos {X : Nat → Gm × Nat} : ∀ {u : Nat}, (∀ e, e < u → gok (X e).1) → 0 < tpr X u
  | 0, _ => Nat.one_pos
  | u + 1, h => Nat.mul_pos (tpr_pos (fun e he => h e (by omega))) (gz_ok (h u (by omega))).1
theorem m_total {T F K P C : Nat → Int64} (hT : TC T) (hF : TF F) (hK : TK K) (hP : TP P) (hC : TL C) {eF eO : Nat → Int32} {eR : Nat → Int64} {X : Nat → Gm × Nat} {u : Nat} (hm : ME eF eO eR X u) (hg : ∀ e, e < u → gok (X e).1) (hu : u ≤ 10) : fX10_totalNow (nI u) K T C eF eO F P = some (lN (tpr X u)) := by
  unfold fX10_totalNow
  obtain ⟨a, b, m, ⟨rfl, rfl⟩, h⟩ := lpG2 (fX10_totalNow_L4 (nI u) K T C eF eO F P) (fun e a b => a = lN (tpr X e) ∧ b = nI e) u (by
    rintro e a b he ⟨rfl, rfl⟩
    refine ⟨_, _, ⟨rfl, rfl⟩, fun g => ?_⟩
    unfold fX10_totalNow_L4
    rw [if_neg (by rw [q_le (by omega) (by omega)]; omega), m_entry hT hF hK hP hC hm (hg e he) hu he, Option.bind_some, Q_mul, l1, q_add]
    rfl) u 0 (lN 1) (nI 0) FU (by omega) (FU_gt (by omega)) ⟨rfl, rfl⟩
  rw [L1, l0, h]
  unfold fX10_totalNow_L4
  rw [if_pos (by rw [q_le (by omega) (by omega)]; omega)]
theorem op_total {B T F K P C V : Nat → Int64} {Q : Nat → Int32} (ht : TT B T F K P C Q V) {LP : List Nat} {FP : Nat → Fm} {us em : Int32} {pr : Int64} {fa : Nat → Option Nat} {pl eR : Nat → Int64} {eF eO : Nat → Int32} (h : RA LP FP us pr fa pl em eF eO eR) : ∃ v, fX9_total pr = some v ∧ fX10_total em K T C eF eO F P = some v := by
  obtain ⟨hB, hQ, hT, hF, hK, hP, hC, hV⟩ := ht
  obtain ⟨X, u, hu, rfl, rfl, rfl, hb, hc, hm⟩ := h
  refine ⟨_, rfl, ?_⟩
  unfold fX10_total
  rw [m_total hT hF hK hP hC hm (fun e he => (hc e he).1) hu, Option.bind_some]
theorem op_entries {LP : List Nat} {FP : Nat → Fm} {us em : Int32} {pr : Int64} {fa : Nat → Option Nat} {pl eR : Nat → Int64} {eF eO : Nat → Int32} (h : RA LP FP us pr fa pl em eF eO eR) : ∃ v, fX9_entries us = some v ∧ fX10_entries em = some v := by
  obtain ⟨X, u, hu, rfl, rfl, -⟩ := h
  exact ⟨_, rfl, rfl⟩
theorem op_clear {LP : List Nat} {FP : Nat → Fm} {us em : Int32} {pr : Int64} {fa : Nat → Option Nat} {pl eR : Nat → Int64} {eF eO : Nat → Int32} (h : RA LP FP us pr fa pl em eF eO eR) : ∃ v us' pr' em', fX9_clear us = some (v, us', pr') ∧ fX10_clear em = some (v, em') ∧ RA LP FP us' pr' fa pl em' eF eO eR := by
  obtain ⟨X, u, hu, rfl, rfl, -⟩ := h
  exact ⟨_, _, _, _, rfl, rfl, X, 0, by omega, rfl, rfl, rfl, by show 1 ≤ _; omega, fun e he => by omega, fun e he => by omega⟩
def pkd (X : Nat → Gm × Nat) : Nat → Nat
  | 0 => 0
  | e + 1 => pkd X e * gz (X e).1 + (X e).2
theorem op_code {B T F K P C V : Nat → Int64} {Q : Nat → Int32} (ht : TT B T F K P C Q V) {LP : List Nat} {FP : Nat → Fm} {us em : Int32} {pr : Int64} {fa : Nat → Option Nat} {pl eR : Nat → Int64} {eF eO : Nat → Int32} (h : RA LP FP us pr fa pl em eF eO eR) : ∃ v, fX9_code LP FP us fa pl = some v ∧ fX10_code em K T C eF eO eR F P = some v := by
  obtain ⟨hB, hQ, hT, hF, hK, hP, hC, hV⟩ := ht
  obtain ⟨X, u, hu, rfl, rfl, rfl, hb, hc, hm⟩ := h
  refine ⟨lN (pkd X u), ?_, ?_⟩
  · unfold fX9_code fX0_packed
    obtain ⟨a, b, m, ⟨rfl, rfl⟩, h⟩ := lpG2 (fX0_packed_L4 (nI u) fa pl LP FP) (fun e a b => a = lN (pkd X e) ∧ b = nI e) u (by
      rintro e a b he ⟨rfl, rfl⟩
      refine ⟨_, _, ⟨rfl, rfl⟩, fun g => ?_⟩
      unfold fX0_packed_L4
      rw [if_neg (by rw [q_le (by omega) (by omega)]; omega), x_sizeAt hc hu he, Option.bind_some, x_plAt (by omega), Option.bind_some, (hc e he).2.2.2, Q_mul, Q_add, l1, q_add]
      rfl) u 0 (lN 0) (nI 0) FU (by omega) (FU_gt (by omega)) ⟨rfl, rfl⟩
    rw [L0, l0, h]
    unfold fX0_packed_L4
    rw [if_pos (by rw [q_le (by omega) (by omega)]; omega), Option.bind_some]
  · unfold fX10_code
    obtain ⟨a, b, m, ⟨rfl, rfl⟩, h⟩ := lpG2 (fX10_code_L4 (nI u) K T C eF eO eR F P) (fun e a b => a = lN (pkd X e) ∧ b = nI e) u (by
      rintro e a b he ⟨rfl, rfl⟩
      refine ⟨_, _, ⟨rfl, rfl⟩, fun g => ?_⟩
      unfold fX10_code_L4
      rw [if_neg (by rw [q_le (by omega) (by omega)]; omega), m_entry hT hF hK hP hC hm (hc e he).1 hu he, Option.bind_some, q_cl (by omega), if_neg (by rw [l0, q_lt (by omega) (by omega)]; omega), (hm e he).2.2, Q_mul, Q_add, l1, q_add]
      rfl) u 0 (lN 0) (nI 0) FU (by omega) (FU_gt (by omega)) ⟨rfl, rfl⟩
    rw [L0, l0, h]
    unfold fX10_code_L4
    rw [if_pos (by rw [q_le (by omega) (by omega)]; omega)]
def ups (X : Nat → Gm × Nat) (e r : Nat) : Nat → Gm × Nat := fun j => if j = e then ((X e).1, r) else X j
theorem tpr_ups {X : Nat → Gm × Nat} {e r : Nat} : ∀ u, tpr (ups X e r) u = tpr X u
  | 0 => rfl
  | u + 1 => by
    show tpr (ups X e r) u * gz (ups X e r u).1 = tpr X u * gz (X u).1
    rw [tpr_ups u]
    unfold ups
    by_cases h : u = e
    · rw [if_pos h, h]
    · rw [if_neg h]
theorem dec_aux {T F K P C : Nat → Int64} (hT : TC T) (hF : TF F) (hK : TK K) (hP : TP P) (hC : TL C) {LP : List Nat} {FP : Nat → Fm} {fa : Nat → Option Nat} {eF eO : Nat → Int32} {u : Nat} (hu : u ≤ 10) : ∀ i f f' q c (X : Nat → Gm × Nat) (pl eR : Nat → Int64), i ≤ u → i < f → i < f' → q < 9223372036854775808 → CE LP FP fa pl X u → ME eF eO eR X u → ∃ v pl' eR' X', rk_it4 (fX0_unpack_L13 (nI u) fa LP FP) f (lN q) (nI c) (nI i - 1) pl = some (v, pl') ∧ rk_it4 (fX10_decode_L29 K T C eF eO F P) f' (nI c) (lN q) (nI i - 1) eR = some (v, eR') ∧ CE LP FP fa pl' X' u ∧ ME eF eO eR' X' u ∧ tpr X' u = tpr X u := by
  intro i
  induction i with
  | zero =>
    intro f f' q c X pl eR hi hf hf' hq hc hm
    obtain ⟨f, rfl, -⟩ := suc_of hf
    obtain ⟨f', rfl, -⟩ := suc_of hf'
    rw [it4_s, it4_s]
    unfold fX0_unpack_L13 fX10_decode_L29
    rw [if_pos (by decide), if_pos (by decide)]
    exact ⟨_, _, _, X, rfl, rfl, hc, hm, rfl⟩
  | succ i ih =>
    intro f f' q c X pl eR hi hf hf' hq hc hm
    obtain ⟨f, rfl, hf⟩ := suc_of hf
    obtain ⟨f', rfl, hf'⟩ := suc_of hf'
    have ih := fun q c X pl eR => ih f f' q c X pl eR (by omega) (by omega) (by omega)
    rw [it4_s, it4_s]
    generalize rk_it4 (fX0_unpack_L13 (nI u) fa LP FP) f = g at ih ⊢
    generalize rk_it4 (fX10_decode_L29 K T C eF eO F P) f' = g' at ih ⊢
    obtain ⟨h1, h2, h3, h4⟩ := hc i (by omega)
    obtain ⟨m1, m2, m3⟩ := hm i (by omega)
    obtain ⟨z1, z2, -⟩ := gz_ok h1
    have ei : nI (i + 1) - 1 = nI i := by rw [l1, q_sub (by omega)]; rfl
    have em : nI i + (-1) = nI i - 1 := (Int32.sub_eq_add_neg _ _).symm
    have ej : ∀ k : Nat, nI k + 1 = nI (k + 1) := fun k => by rw [l1, q_add]
    have hz : ¬ lN (gz (X i).1) = (0 : Int64) := by rw [L0, Q_eq (by omega) (by omega)]; omega
    have hmod := Nat.mod_lt q z1
    have hdiv := Nat.div_le_self q (gz (X i).1)
    unfold fX0_unpack_L13 fX0_unpack_B67 fX10_decode_L29 fX10_decode_B75
    rw [ei, if_neg (nI_neg (by omega)), if_neg (nI_neg (by omega)), x_sizeAt hc hu (by omega), Option.bind_some, q_rmd hq z1 (by omega), Option.bind_some, Option.bind_some, q_quo hq z1 (by omega), Option.bind_some, x_plAt (by omega), Option.bind_some, m_entry hT hF hK hP hC hm h1 hu (by omega), Option.bind_some, if_neg hz, Option.bind_some, if_neg hz, q_cl (by omega), if_neg (show ¬ (nI i < 0 ∨ 10 ≤ i) by rw [l0, q_lt (by omega) (by omega)]; omega), Q_rem hq z1 (by omega), Q_div hq z1 (by omega), h4, m3, em]
    have hme : ∀ r, ME eF eO (vp_updL eR i (lN r)) (ups X i r) u := by
      intro r e he
      obtain ⟨a1, a2, a3⟩ := hm e he
      unfold ups
      by_cases w : e = i
      · subst w; rw [if_pos rfl, updL_s]; exact ⟨a1, a2, rfl⟩
      · rw [if_neg w, updL_n w]; exact ⟨a1, a2, a3⟩
    by_cases w : q % gz (X i).1 = (X i).2
    · rw [if_pos (show lN (q % gz (X i).1) = lN (X i).2 by rw [w]), if_pos (show lN (q % gz (X i).1) = lN (X i).2 by rw [w]), show (0 : Int32) = nI 0 from rfl, q_add]
      have hX : ups X i (q % gz (X i).1) = X := by
        funext j
        unfold ups
        by_cases e : j = i
        · subst e; rw [if_pos rfl, w]
        · rw [if_neg e]
      have hm' := hme (q % gz (X i).1)
      rw [hX] at hm'
      exact ih _ _ X pl _ (by omega) hc hm'
    · have w' : ¬ lN (q % gz (X i).1) = lN (X i).2 := by rw [Q_eq (by omega) (by omega)]; exact w
      rw [if_neg w', if_neg w', q_setL (by omega) (by omega), Option.bind_some, ej]
      have hc' : CE LP FP fa (vp_updL pl i (lN (q % gz (X i).1))) (ups X i (q % gz (X i).1)) u := by
        intro e he
        obtain ⟨a1, a2, a3, a4⟩ := hc e he
        unfold ups
        by_cases w : e = i
        · subst w; rw [if_pos rfl, updL_s]; exact ⟨a1, hmod, a3, rfl⟩
        · rw [if_neg w, updL_n w]; exact ⟨a1, a2, a3, a4⟩
      obtain ⟨v, pl', eR', X', b1, b2, b3, b4, b5⟩ := ih (q / gz (X i).1) (c + 1) (ups X i (q % gz (X i).1)) _ _ (by omega) hc' (hme _)
      exact ⟨v, pl', eR', X', b1, b2, b3, b4, b5.trans (tpr_ups u)⟩
theorem op_decode {B T F K P C V : Nat → Int64} {Q : Nat → Int32} (ht : TT B T F K P C Q V) {LP : List Nat} {FP : Nat → Fm} {us em : Int32} {pr : Int64} {fa : Nat → Option Nat} {pl eR : Nat → Int64} {eF eO : Nat → Int32} (h : RA LP FP us pr fa pl em eF eO eR) (p : Int64) : ∃ v pl' eR', fX9_decode LP FP us pr pl fa p = some (v, pl') ∧ fX10_decode em eR K T C eF eO F P p = some (v, eR') ∧ RA LP FP us pr fa pl' em eF eO eR' := by
  have h0 := h
  obtain ⟨hB, hQ, hT, hF, hK, hP, hC, hV⟩ := ht
  obtain ⟨X, u, hu, rfl, rfl, rfl, hb, hc, hm⟩ := h
  have hp := tpr_pos (X := X) (u := u) (fun e he => (hc e he).1)
  unfold fX9_decode fX10_decode
  rw [rgL rfl (by omega) hp, m_total hT hF hK hP hC hm (fun e he => (hc e he).1) hu, Option.bind_some, wb1 (a := 0) (b := (tpr X u : Int) - 1) (by decide) (L_m1 (by omega) hp)]
  by_cases c : 0 ≤ p.toInt ∧ p.toInt ≤ (tpr X u : Int) - 1
  · rw [if_pos c, if_pos c]
    obtain ⟨q, hq, rfl, -⟩ := L_of c.1
    obtain ⟨v, pl', eR', X', b1, b2, b3, b4, b5⟩ := dec_aux hT hF hK hP hC hu u FU FU q 0 X pl eR (Nat.le_refl u) (FU_gt (by omega)) (FU_gt (by omega)) hq hc hm
    unfold fX0_unpack
    rw [l0, b1, b2, Option.bind_some]
    exact ⟨_, _, _, rfl, rfl, X', u, hu, rfl, rfl, by rw [b5], by rw [b5]; exact hb, b3, b4⟩
  · rw [if_neg c, if_neg c]; exact ⟨_, _, _, rfl, rfl, h0⟩
def put (X : Nat → Gm × Nat) (u : Nat) (x : Gm × Nat) : Nat → Gm × Nat := fun j => if j = u then x else X j
theorem tpr_put {X : Nat → Gm × Nat} {x : Gm × Nat} {u : Nat} : ∀ n, n ≤ u → tpr (put X u x) n = tpr X n
  | 0, _ => rfl
  | n + 1, h => by
    show tpr (put X u x) n * gz (put X u x n).1 = tpr X n * gz (X n).1
    rw [tpr_put n (by omega)]
    unfold put
    rw [if_neg (by omega)]
theorem op_store {B T F K P C V : Nat → Int64} {Q : Nat → Int32} (ht : TT B T F K P C Q V) {LP : List Nat} {FP : Nat → Fm} {us em : Int32} {pr : Int64} {fa : Nat → Option Nat} {pl eR : Nat → Int64} {eF eO : Nat → Int32} (h : RA LP FP us pr fa pl em eF eO eR) {G : Gm} (hG : gok G) {of : Nat → Int32} (hof : gof G of) {pa : Nat} (hpa : pa ∈ LP) (hfp : FP pa = gf G) (b L Z S M : Nat → Int32) (R SL : Nat → Int64) : ∃ v us' pr' fa' pl' L' R' Z' em' eF' eO' eR' M' SL' S', fX9_store pa us pr b (gf G) fa pl L R Z B Q V = some (v, us', pr', fa', pl', L', R', Z') ∧ fX10_store (nI G.1) em eF eO eR M SL S b K T C F of P = some (v, em', eF', eO', eR', M', SL', S') ∧ RA LP FP us' pr' fa' pl' em' eF' eO' eR' := by
  have hr0 := h
  have ht' := ht
  obtain ⟨hB, hQ, hT, hF, hK, hP, hC, hV⟩ := ht'
  obtain ⟨X, u, hu, rfl, rfl, rfl, hb, hc, hm⟩ := h
  have hp := tpr_pos (X := X) (u := u) (fun e he => (hc e he).1)
  obtain ⟨g1, g2, g3⟩ := gz_ok hG
  obtain ⟨v, L', Z', S', e1, e2, e3⟩ := u_holds hG hof b L Z S
  unfold fX9_store fX10_store
  rw [e1, e2, Option.bind_some, Option.bind_some]
  dsimp only
  rcases e3 with rfl | ⟨rfl, e3⟩
  · rw [if_neg (by decide), if_neg (by decide)]
    exact ⟨_, _, _, _, _, _, _, _, _, _, _, _, _, _, _, rfl, rfl, hr0⟩
  · rw [if_pos (by decide), if_pos (by decide)]
    unfold fX0_hasRoomFor fX0_hasRoomFor_B28
    have e10 : (10 : Int32) = nI 10 := rfl
    have eM : (4611686018427387904 : Int64) = lN 4611686018427387904 := rfl
    by_cases c : u = 10
    · subst c
      rw [if_pos (by decide), Option.bind_some, if_neg (show ¬ ¬ (0 : Int32) = 0 by decide), if_pos (by decide)]
      exact ⟨_, _, _, _, _, _, _, _, _, _, _, _, _, _, _, rfl, rfl, hr0⟩
    · rw [if_neg (by rw [e10, q_le (by omega) (by omega)]; omega), (gf_w hG).2.1, eM, q_quo (by omega) g1 (by omega), Option.bind_some, if_neg (show ¬ nI u = 10 by rw [e10, q_eq (by omega) (by omega)]; exact c), u_many hT hF hK hP hC hG hof, Option.bind_some, m_total hT hF hK hP hC hm (fun e he => (hc e he).1) hu, Option.bind_some, if_neg (show ¬ lN (tpr X u) = 0 by rw [L0, Q_eq (by omega) (by omega)]; omega), Q_div (by omega) hp (by omega)]
      have d1 : (4611686018427387904 / gz G < tpr X u) = ¬ (tpr X u * gz G ≤ 4611686018427387904) := by
        rw [← Nat.le_div_iff_mul_le g1]; exact propext (by omega)
      have d2 : (gz G ≤ 4611686018427387904 / tpr X u) = (tpr X u * gz G ≤ 4611686018427387904) := by
        rw [Nat.mul_comm]; exact propext (Nat.le_div_iff_mul_le hp)
      have l1' : 4611686018427387904 / gz G ≤ 4611686018427387904 := Nat.div_le_self _ _
      have l2' : 4611686018427387904 / tpr X u ≤ 4611686018427387904 := Nat.div_le_self _ _
      have d3 : (lN (4611686018427387904 / gz G) < lN (tpr X u)) = ¬ (tpr X u * gz G ≤ 4611686018427387904) := by rw [Q_lt (by omega) (by omega), d1]
      have d4 : (lN (gz G) ≤ lN (4611686018427387904 / tpr X u)) = (tpr X u * gz G ≤ 4611686018427387904) := by rw [Q_le (by omega) (by omega), d2]
      by_cases c2 : tpr X u * gz G ≤ 4611686018427387904
      · rw [if_neg (show ¬ lN (4611686018427387904 / gz G) < lN (tpr X u) by rw [d3]; exact fun z => z c2), Option.bind_some, if_pos (show ¬ (1 : Int32) = 0 by decide), if_pos (show lN (gz G) ≤ lN (4611686018427387904 / tpr X u) by rw [d4]; exact c2), q_cl (a := u) (by omega), if_neg (show ¬ (nI u < 0 ∨ 10 ≤ u) by rw [l0, q_lt (by omega) (by omega)]; omega)]
        obtain ⟨r, L2, R2, Z2, M2, SL2, S2, hr, f1, f2⟩ := u_rank hB hQ hT hF hK hP hC hV hG hof e3 L' Z' S' M R SL
        rw [f1, Option.bind_some]
        obtain ⟨kk, eO', mm, ⟨rfl, q2⟩, hl⟩ := lpG2 (fX10_store_L53 (nI G.1) (nI u) eF eR M SL b K T C F of P (1, S')) (fun i a o => a = nI i ∧ (∀ e, e < u → ∀ j, j < 4 → o (4 * e + j) = eO (4 * e + j)) ∧ ∀ j, j < i → o (4 * u + j) = of j) 4 (by
          rintro i a o hi ⟨rfl, a2, a3⟩
          refine ⟨_, upd o (4 * u + i) (of i), ⟨rfl, fun e he j hj => ?_, fun j hj => ?_⟩, fun g => ?_⟩
          · rw [upd_n (by omega)]; exact a2 e he j hj
          · by_cases w : j = i
            · subst w; rw [upd_s]
            · rw [upd_n (by omega)]; exact a3 j (by omega)
          · unfold fX10_store_L53
            rw [if_neg (by rw [l4, q_le (by omega) (by omega)]; omega), q_cl (a := i) (by omega), if_neg (show ¬ (nI i < 0 ∨ 4 ≤ i) by rw [l0, q_lt (by omega) (by omega)]; omega), l4, q_mul, q_add, q_cl (by omega), if_neg (show ¬ (nI (4 * u + i) < 0 ∨ 40 ≤ 4 * u + i) by rw [l0, q_lt (by omega) (by omega)]; omega), l1, q_add]) 4 0 (nI 0) eO FU (by omega) (FU_gt (by omega)) ⟨rfl, fun e he j hj => rfl, fun j hj => by omega⟩
        rw [l0, hl]
        unfold fX10_store_L53 fX0_append fX0_keep
        rw [if_pos (show (4 : Int32) ≤ nI 4 by decide), f2, Option.bind_some, if_neg (show ¬ nI u < 0 from nI_neg (by omega)), if_neg (show ¬ (10 : Int32) ≤ nI u by rw [e10, q_le (by omega) (by omega)]; omega), q_cl (a := u) (by omega), if_neg (show ¬ (nI u < 0 ∨ 10 ≤ u) by rw [l0, q_lt (by omega) (by omega)]; omega), q_setL (by omega) (by omega), Option.bind_some, Option.bind_some, Option.bind_some]
        refine ⟨nI u, nI (u + 1), lN (tpr X u * gz G), va_up fa u (some pa), vp_updL pl u (lN r), L2, R2, Z2, nI (u + 1), upd eF u (nI G.1), eO', vp_updL eR u (lN r), M2, SL2, S2, ?_, ?_, put X u (G, r), u + 1, by omega, rfl, rfl, ?_, ?_, ?_, ?_⟩
        · show some (nI u, nI u + 1, lN (tpr X u) * (gf G).2.2.2.1, va_up fa u (some pa), vp_updL pl u (lN r), L2, R2, Z2) = _
          rw [(gf_w hG).2.1, Q_mul, l1, q_add]
        · show some (nI u + 1 - 1, nI u + 1, upd eF u (nI G.1), eO', vp_updL eR u (lN r), M2, SL2, S2) = _
          rw [l1, q_add, q_sub (by omega), Nat.add_sub_cancel]
        · show lN (tpr X u * gz G) = lN (tpr (put X u (G, r)) u * gz (put X u (G, r) u).1)
          rw [tpr_put u (Nat.le_refl u)]
          unfold put
          rw [if_pos rfl]
        · show tpr (put X u (G, r)) u * gz (put X u (G, r) u).1 ≤ _
          rw [tpr_put u (Nat.le_refl u)]
          unfold put
          rw [if_pos rfl]; exact c2
        · intro e he
          by_cases w : e = u
          · subst w
            unfold put
            rw [if_pos rfl]
            exact ⟨hG, hr, ⟨pa, by unfold va_up; exact if_pos rfl, hpa, hfp⟩, by rw [updL_s]⟩
          · obtain ⟨a1, a2, ⟨a, a3, a4, a5⟩, a6⟩ := hc e (by omega)
            unfold put
            rw [if_neg w]
            exact ⟨a1, a2, ⟨a, by unfold va_up; rw [if_neg w]; exact a3, a4, a5⟩, by rw [updL_n w]; exact a6⟩
        · intro e he
          by_cases w : e = u
          · subst w
            unfold put
            rw [if_pos rfl]
            refine ⟨by rw [upd_s], fun j hj => ?_, by rw [updL_s]⟩
            rw [q2.2 j hj]
            obtain ⟨k, x1, x2, x3, x4⟩ := G
            exact gof_L4 hof j hj
          · obtain ⟨a1, a2, a3⟩ := hm e (by omega)
            unfold put
            rw [if_neg w]
            refine ⟨by rw [upd_n w]; exact a1, fun j hj => ?_, by rw [updL_n w]; exact a3⟩
            rw [q2.1 e (by omega) j hj]; exact a2 j hj
      · rw [if_pos (show lN (4611686018427387904 / gz G) < lN (tpr X u) by rw [d3]; exact c2), Option.bind_some, if_neg (show ¬ ¬ (0 : Int32) = 0 by decide), if_neg (show ¬ lN (gz G) ≤ lN (4611686018427387904 / tpr X u) by rw [d4]; exact c2)]
        exact ⟨_, _, _, _, _, _, _, _, _, _, _, _, _, _, _, rfl, rfl, hr0⟩
theorem op_fetch {B T F K P C V : Nat → Int64} {Q : Nat → Int32} (ht : TT B T F K P C Q V) {LP : List Nat} {FP : Nat → Fm} {us em : Int32} {pr : Int64} {fa : Nat → Option Nat} {pl eR : Nat → Int64} {eF eO : Nat → Int32} (h : RA LP FP us pr fa pl em eF eO eR) {G : Gm} (hG : gok G) {of : Nat → Int32} (hof : gof G of) {pa : Nat} (hpa : pa ∈ LP) (hfp : FP pa = gf G) (b d L Z S M m : Nat → Int32) (R SL : Nat → Int64) (p : Int32) : ∃ v pa' b' L' R' Z' d' nw' M' m' of' SL' S', fX9_fetch LP FP pa b d us L R Z fa pl B Q V p = some (v, pa', b', L', R', Z', d') ∧ fX10_fetch (nI G.1) em b M m of SL S K T C eF eO eR P p = some (v, nw', b', M', m', of', SL', S') ∧ ∃ G', gok G' ∧ nw' = nI G'.1 ∧ gof G' of' ∧ pa' ∈ LP ∧ FP pa' = gf G' := by
  have ht' := ht
  obtain ⟨hB, hQ, hT, hF, hK, hP, hC, hV⟩ := ht'
  obtain ⟨X, u, hu, rfl, rfl, rfl, hb, hc, hm⟩ := h
  unfold fX9_fetch fX10_fetch
  have hw : ((nI u).toInt64 - (1 : Int64)).toInt = (u : Int) - 1 := by rw [i_dec, i_nI (by omega)]
  rw [wb1 (a := 0) (b := (u : Int) - 1) (by decide) hw, i_w]
  have z0 : (0 : Int32).toInt = 0 := by decide
  by_cases c : 0 ≤ p.toInt ∧ p.toInt ≤ (u : Int) - 1
  · rw [if_pos c]
    obtain ⟨e, rfl, -, he⟩ := i_nat (by omega) c
    have he : e < u := by omega
    obtain ⟨a1, a2, ⟨a, a3, a4, a5⟩, a6⟩ := hc e he
    obtain ⟨m1, m2, m3⟩ := hm e he
    have k0 : eO (4 * e) = nI (gp (X e).1 0) := m2 0 (by omega)
    have k1 := m2 1 (by omega)
    have k2 := m2 2 (by omega)
    have k3 := m2 3 (by omega)
    have g : ∀ i, i < 40 → ¬ (nI i < 0 ∨ 40 ≤ i) := fun i hi => by rw [l0, q_lt (by omega) (by omega)]; omega
    have hof' := gof_upd of (X e).1
    obtain ⟨v, b', L', R', Z', w, M', m', SL', S', e1, e2, e3⟩ := laid ht a1 hof' a2 b d L Z S M m R SL
    rw [x_famAt (LP := LP) (FP := FP) (pl := pl) (X := X) hu he, Option.bind_some, a3]
    show ∃ v pa' b' L' R' Z' d' nw' M' m' of' SL' S', (if a ∈ LP then _ else none) = _ ∧ _
    rw [if_pos a4, x_plAt (by omega), Option.bind_some, a6, a5, e1, Option.bind_some, q_cl (a := e) (by omega), if_neg (show ¬ (nI e < 0 ∨ 10 ≤ e) by rw [l0, q_lt (by omega) (by omega)]; omega), l4, q_mul, l1, l2, l3, q_add, q_add, q_add, q_cl (a := 4 * e) (by omega), q_cl (a := 4 * e + 1) (by omega), q_cl (a := 4 * e + 2) (by omega), q_cl (a := 4 * e + 3) (by omega), if_neg (g _ (by omega)), if_neg (g _ (by omega)), if_neg (g _ (by omega)), if_neg (g _ (by omega)), m1, k0, k1, k2, k3, m3]
    unfold fX10_turnsTo
    rw [Option.bind_some]
    dsimp only
    refine ⟨nI (X e).1.1, a, b', L', R', Z', w, nI (X e).1.1, M', m', _, SL', S', ?_, ?_, (X e).1, a1, rfl, hof', a4, a5⟩
    · rw [(gf_w a1).2.2.1]
    · refine (congrArg (fun z => Option.bind z _) e2).trans ?_
      rw [Option.bind_some]
      refine (congrArg (fun z => Option.bind z _) e3).trans ?_
      rfl
  · rw [if_neg c]
    have hn : fX0_familyAt (nI u) fa p = some none := by
      unfold fX0_familyAt fX0_familyAt_B30 fX0_familyAt_B31
      by_cases c1 : p < 0
      · rw [if_pos c1]
      · rw [if_neg c1, if_pos]
        rw [i_lt, z0] at c1
        rw [i_le, i_nI (by omega)]; omega
    rw [hn, Option.bind_some]
    exact ⟨_, _, _, _, _, _, _, _, _, _, _, _, _, rfl, rfl, G, hG, rfl, hof, hpa, hfp⟩
