/-! ===== the kinds together, 1: a family as numbers ===== -/
abbrev Gm : Type := Nat × Nat × Nat × Nat × Nat
def c4 (a b c d : Nat) : Nat → Nat := fun y => if y = 0 then a else if y = 1 then b else if y = 2 then c else d
theorem sm_c4 (a b c d : Nat) : sm (c4 a b c d) = a + b + c + d := rfl
def gok : Gm → Prop
  | (0, a, b, c, d) => a ≤ 60 ∧ b ≤ a ∧ c ≤ 2 ∧ d = 0
  | (1, a, b, c, d) => 1 ≤ a ∧ a ≤ 20 ∧ b ≤ 1 ∧ c = 0 ∧ d = 0
  | (2, a, b, c, d) => 1 ≤ a ∧ a ≤ 20 ∧ (b = 1 ∨ b = 2) ∧ c = 0 ∧ d = 0
  | (3, a, b, c, d) => 1 ≤ a ∧ a ≤ 30 ∧ b = 0 ∧ c = 0 ∧ d = 0
  | (4, a, b, c, d) => 1 ≤ a ∧ a ≤ 60 ∧ 1 ≤ b ∧ b ≤ a ∧ c = 0 ∧ d = 0
  | (5, a, b, c, d) => 1 ≤ a + b + c + d ∧ a + b + c + d ≤ 20
  | (_ + 6, _, _, _, _) => False
def gl : Gm → Nat
  | (0, _, b, _, _) => b
  | (1, a, _, _, _) => a
  | (2, a, _, _, _) => 2 * a
  | (3, a, _, _, _) => a
  | (4, a, _, _, _) => a
  | (_, a, b, c, d) => a + b + c + d
def gz : Gm → Nat
  | (0, a, b, _, _) => cb a b
  | (1, a, _, _, _) => fc a
  | (2, a, b, _, _) => we b (2 * a) 0
  | (3, a, _, _, _) => ct a
  | (4, a, b, _, _) => pt b a
  | (_, a, b, c, d) => mu (c4 a b c d)
def gf : Gm → Fm
  | (0, a, b, c, _) => (0, 0, nI b, lN (cb a b), nI a, nI c, 0, 0)
  | (1, a, b, _, _) => (1, 1, nI a, lN (fc a), nI b, 0, 0, 0)
  | (2, a, b, _, _) => (2, 2, nI (2 * a), lN (we b (2 * a) 0), nI a, nI b, 0, 0)
  | (3, a, _, _, _) => (3, 3, nI a, lN (ct a), 0, 0, 0, 0)
  | (4, a, b, _, _) => (4, 4, nI a, lN (pt b a), nI b, 0, 0, 0)
  | (_, a, b, c, d) => (5, 5, nI (a + b + c + d), lN (mu (c4 a b c d)), nI a, nI b, nI c, nI d)
def gac : Gm → (Nat → Int32) → Prop
  | (0, a, b, _, _) => AccS a b
  | (1, a, _, _, _) => AccP a
  | (2, a, b, _, _) => AccW b a
  | (3, a, _, _, _) => AccB a
  | (4, a, b, _, _) => AccT b a
  | (_, a, b, c, d) => AccA (c4 a b c d)
def gp (G : Gm) : Nat → Nat := c4 G.2.1 G.2.2.1 G.2.2.2.1 G.2.2.2.2
def gof (G : Gm) (of : Nat → Int32) : Prop := of 0 = nI G.2.1 ∧ of 1 = nI G.2.2.1 ∧ of 2 = nI G.2.2.2.1 ∧ of 3 = nI G.2.2.2.2
theorem gof_L4 {a b c d k : Nat} {of : Nat → Int32} (h : gof (k, a, b, c, d) of) : L4 of (c4 a b c d) := by
  intro y hy
  have : y = 0 ∨ y = 1 ∨ y = 2 ∨ y = 3 := by omega
  rcases this with rfl | rfl | rfl | rfl
  · exact h.1
  · exact h.2.1
  · exact h.2.2.1
  · exact h.2.2.2
theorem bl_pos : ∀ l o : Nat, o ≤ l → (l + o) % 2 = 0 → 0 < bl l o
  | 0, 0, _, _ => by decide
  | l + 1, 0, _, h => bl_pos l 1 (by omega) (by omega)
  | l + 1, o + 1, h1, h2 => by
    have := bl_pos l o (by omega) (by omega)
    show 0 < bl l (o + 2) + bl l o
    omega
theorem we_pos {tp a : Nat} : 0 < we tp (2 * a) 0 := by
  have h := bl_pos (2 * a) 0 (by omega) (by omega)
  unfold we
  by_cases c : tp = 2
  · rw [if_pos c]; exact Nat.mul_pos h (Nat.pow_pos (by omega))
  · rw [if_neg c]; exact h
theorem gz_ok : ∀ {G : Gm}, gok G → 0 < gz G ∧ gz G ≤ 4611686018427387904 ∧ gl G ≤ 60 := by
  rintro ⟨k, a, b, c, d⟩ h
  match k, h with
  | 0, h => exact ⟨cb_pos h.2.1, by have := cb_lt (n := a) (k := b) h.1; show cb a b ≤ _; omega, by have := h.1; have := h.2.1; show b ≤ 60; omega⟩
  | 1, h => exact ⟨fc_pos a, by have := fc_lt (n := a) h.2.1; show fc a ≤ _; omega, by have := h.2.1; show a ≤ 60; omega⟩
  | 2, h => exact ⟨we_pos, by have := we_lt (tp := b) (l := 2 * a) (o := 0) (by have := h.2.1; omega); show we b (2 * a) 0 ≤ _; omega, by have := h.2.1; show 2 * a ≤ 60; omega⟩
  | 3, h => exact ⟨ct_pos a, by have := ct_lt (n := a) h.2.1; show ct a ≤ _; omega, by have := h.2.1; show a ≤ 60; omega⟩
  | 4, h => exact ⟨pt_pos (by have := h.2.2.1; omega), by have := pt_lt (m := b) (s := a) h.2.1; show pt b a ≤ _; omega, h.2.1⟩
  | 5, h => exact ⟨mu_pos _, by have := mu_lt (c := c4 a b c d) h.2; show mu _ ≤ _; omega, by have := h.2; show a + b + c + d ≤ 60; omega⟩
  | _ + 6, h => exact h.elim
theorem gf_w : ∀ {G : Gm}, gok G → (gf G).2.2.1 = nI (gl G) ∧ (gf G).2.2.2.1 = lN (gz G) ∧ (gf G).2.1 = nI G.1 ∧ (gf G).1 = G.1 := by
  rintro ⟨k, a, b, c, d⟩ h
  match k, h with
  | 0, h => exact ⟨rfl, rfl, rfl, rfl⟩
  | 1, h => exact ⟨rfl, rfl, rfl, rfl⟩
  | 2, h => exact ⟨rfl, rfl, rfl, rfl⟩
  | 3, h => exact ⟨rfl, rfl, rfl, rfl⟩
  | 4, h => exact ⟨rfl, rfl, rfl, rfl⟩
  | 5, h => exact ⟨rfl, rfl, rfl, rfl⟩
  | _ + 6, h => exact h.elim
theorem u_long {of : Nat → Int32} : ∀ {G : Gm}, gok G → gof G of → fX10_longNow (nI G.1) of = some (nI (gl G)) := by
  rintro ⟨k, a, b, c, d⟩ h hof
  match k, h, hof with
  | 0, h, hof => unfold fX10_longNow; dsimp only; rw [if_neg (by decide)]; exact congrArg some hof.2.1
  | 1, h, hof => unfold fX10_longNow; dsimp only; rw [if_pos (by decide), if_pos (by decide), if_pos (by decide)]; exact congrArg some hof.1
  | 2, h, hof =>
    have e : of 0 = nI a := hof.1
    unfold fX10_longNow; dsimp only; rw [if_pos (by decide), if_neg (by decide), e, l2, q_mul]; rfl
  | 3, h, hof => unfold fX10_longNow; dsimp only; rw [if_pos (by decide), if_pos (by decide), if_pos (by decide)]; exact congrArg some hof.1
  | 4, h, hof => unfold fX10_longNow; dsimp only; rw [if_pos (by decide), if_pos (by decide), if_pos (by decide)]; exact congrArg some hof.1
  | 5, h, hof => exact m_long5 (gof_L4 hof)
  | _ + 6, h, hof => exact h.elim
theorem u_set : ∀ {G : Gm}, gok G → ∀ i, i < 4 → v_setting (gf G) (nI i) = some (nI (gp G i)) := by
  rintro ⟨k, a, b, c, d⟩ h i hi
  have hi : i = 0 ∨ i = 1 ∨ i = 2 ∨ i = 3 := by omega
  match k, h with
  | 0, h =>
    obtain ⟨-, -, -, h4⟩ := h
    subst h4
    rcases hi with rfl | rfl | rfl | rfl <;> rfl
  | 1, h =>
    obtain ⟨-, -, -, h4, h5⟩ := h
    subst h4; subst h5
    rcases hi with rfl | rfl | rfl | rfl <;> rfl
  | 2, h =>
    obtain ⟨-, -, -, h4, h5⟩ := h
    subst h4; subst h5
    rcases hi with rfl | rfl | rfl | rfl <;> rfl
  | 3, h =>
    obtain ⟨-, -, h3, h4, h5⟩ := h
    subst h3; subst h4; subst h5
    rcases hi with rfl | rfl | rfl | rfl <;> rfl
  | 4, h =>
    obtain ⟨-, -, -, -, h4, h5⟩ := h
    subst h4; subst h5
    rcases hi with rfl | rfl | rfl | rfl <;> rfl
  | 5, h => rcases hi with rfl | rfl | rfl | rfl <;> rfl
  | _ + 6, h => exact h.elim
theorem u_count {T F K P C : Nat → Int64} (hT : TC T) (hF : TF F) (hK : TK K) (hP : TP P) (hC : TL C) : ∀ {G : Gm}, gok G → fX10_countOf K T C F P (nI G.1) (nI G.2.1) (nI G.2.2.1) (nI G.2.2.2.1) (nI G.2.2.2.2) = some (lN (gz G)) := by
  rintro ⟨k, a, b, c, d⟩ h
  match k, h with
  | 0, h =>
    unfold fX10_countOf
    dsimp only
    have := h.1; have := h.2.1
    rw [if_pos (by decide), q_cho hT (by omega) (by show b < _; omega)]; rfl
  | 1, h =>
    have h2 := h.2.1
    unfold fX10_countOf
    dsimp only
    rw [if_neg (by decide), if_pos (by decide), q_cl (by omega), if_neg (by rw [l0, q_lt (by omega) (by omega)]; omega), hF a h2]; rfl
  | 2, h =>
    have h2 := h.2.1
    unfold fX10_countOf
    dsimp only
    rw [if_neg (by decide), if_neg (by decide), if_pos (by decide), l2, q_mul, l0, m_we hC h.2.2.1 (by omega) (by omega)]; rfl
  | 3, h =>
    have h2 := h.2.1
    unfold fX10_countOf
    dsimp only
    rw [if_neg (by decide), if_neg (by decide), if_neg (by decide), if_pos (by decide), q_cl (by omega), if_neg (by rw [l0, q_lt (by omega) (by omega)]; omega), hK a h2]; rfl
  | 4, h =>
    have h2 := h.2.1
    have h3 := h.2.2.2.1
    unfold fX10_countOf
    dsimp only
    rw [if_neg (by decide), if_neg (by decide), if_neg (by decide), if_neg (by decide), if_pos (by decide), l61, q_mul, q_add, q_cl (by omega), if_neg (by rw [l0, q_lt (by omega) (by omega)]; omega), hP b a (by omega) h2]; rfl
  | 5, h =>
    unfold fX10_countOf
    dsimp only
    rw [if_neg (by decide), if_neg (by decide), if_neg (by decide), if_neg (by decide), if_neg (by decide), m_arr hT h.2]; rfl
  | _ + 6, h => exact h.elim
theorem u_many {T F K P C : Nat → Int64} (hT : TC T) (hF : TF F) (hK : TK K) (hP : TP P) (hC : TL C) {G : Gm} (hG : gok G) {of : Nat → Int32} (hof : gof G of) : fX10_manyNow (nI G.1) K T C F of P = some (lN (gz G)) := by
  obtain ⟨h0, h1, h2, h3⟩ := hof
  unfold fX10_manyNow
  rw [h0, h1, h2, h3, u_count hT hF hK hP hC hG, Option.bind_some]
theorem v01 {v : Int32} {p : Prop} (h : v = 0 ∨ v = 1 ∧ p) : v &&& 1 = v := by
  rcases h with rfl | ⟨rfl, -⟩
  · exact and1_0
  · exact and1_1
theorem v01' {v : Int32} {p : Prop} (h : v = 0 ∧ ¬ p ∨ v = 1 ∧ p) : v = 0 ∨ v = 1 ∧ p := by
  rcases h with ⟨h, -⟩ | h
  · exact Or.inl h
  · exact Or.inr h
theorem u_acc {of : Nat → Int32} : ∀ {G : Gm}, gok G → gof G of → ∀ b L Z S : Nat → Int32, ∃ (v : Int32) (L' Z' S' : Nat → Int32), v_accepts (gf G) b L Z = some (v, L', Z') ∧ fX10_isGood (nI G.1) S b of = some (v, S') ∧ (v = 0 ∨ v = 1 ∧ gac G b) := by
  rintro ⟨k, a, b, c, d⟩ h hof x L Z S
  match k, h, hof with
  | 0, h, hof =>
    have := h.1; have := h.2.1
    obtain ⟨v, e1, e2, e3⟩ := acc0 (n := a) (k := b) (by omega) (by omega) x L Z of hof.1 hof.2.1
    refine ⟨v, L, Z, S, e1, ?_, e3⟩
    unfold fX10_isGood
    dsimp only
    rw [if_pos (by decide), e2, Option.bind_some, if_pos (v01 e3)]
  | 1, h, hof =>
    obtain ⟨v, e1, e2, e3⟩ := acc1 (n := a) h.2.1 x L Z of hof.1
    refine ⟨v, L, Z, S, e1, ?_, v01' e3⟩
    unfold fX10_isGood
    dsimp only
    rw [if_neg (by decide), if_pos (by decide), e2, Option.bind_some, if_pos (v01 (v01' e3))]
  | 2, h, hof =>
    obtain ⟨v, S', e1, e2, e3⟩ := acc2 (tp := b) (p := a) h.2.2.1 h.2.1 x L Z of S hof.1 hof.2.1
    refine ⟨v, L, Z, S', e1, ?_, v01' e3⟩
    unfold fX10_isGood
    dsimp only
    rw [if_neg (by decide), if_neg (by decide), if_pos (by decide), e2, Option.bind_some, if_pos (v01 (v01' e3))]
  | 3, h, hof =>
    obtain ⟨v, Z', S', e1, e2, e3⟩ := acc3 (n := a) h.1 h.2.1 x L Z S of hof.1
    refine ⟨v, L, Z', S', e1, ?_, v01' e3⟩
    unfold fX10_isGood
    dsimp only
    rw [if_neg (by decide), if_neg (by decide), if_neg (by decide), if_pos (by decide), e2, Option.bind_some, if_pos (v01 (v01' e3))]
  | 4, h, hof =>
    have := h.2.1; have := h.2.2.2.1
    obtain ⟨v, e1, e2, e3⟩ := acc4 (g := b) (n := a) (by omega) (by omega) x L Z of hof.1 hof.2.1
    refine ⟨v, L, Z, S, e1, ?_, v01' e3⟩
    unfold fX10_isGood
    dsimp only
    rw [if_neg (by decide), if_neg (by decide), if_neg (by decide), if_neg (by decide), if_pos (by decide), e2, Option.bind_some, if_pos (v01 (v01' e3))]
  | 5, h, hof =>
    obtain ⟨v, L', e1, e3⟩ := x_acc5 (c := c4 a b c d) h.2 x L Z
    obtain ⟨v', e2, e4⟩ := m_good5 (c := c4 a b c d) h.2 (b := x) (S := S) (gof_L4 hof)
    have hv : v' = v := by
      rcases e3 with ⟨rfl, h1⟩ | ⟨rfl, h1⟩ <;> rcases e4 with ⟨rfl, h2⟩ | ⟨rfl, h2⟩
      · rfl
      · exact absurd h2 h1
      · exact absurd h1 h2
      · rfl
    subst hv
    exact ⟨v', L', Z, S, e1, e2, v01' e3⟩
  | _ + 6, h, hof => exact h.elim
theorem u_rank {B T F K P C V : Nat → Int64} {Q : Nat → Int32} (hB : TB B) (hQ : TQ Q) (hT : TC T) (hF : TF F) (hK : TK K) (hP : TP P) (hC : TL C) (hV : TK V) {of : Nat → Int32} : ∀ {G : Gm}, gok G → gof G of → ∀ {x : Nat → Int32}, gac G x → ∀ (L Z S M : Nat → Int32) (R SL : Nat → Int64), ∃ r L' R' Z' M' SL' S', r < gz G ∧ v_placeOf (gf G) x L R Z B Q V = some (lN r, L', R', Z') ∧ fX10_rankNow (nI G.1) M SL S x K T C F of P = some (lN r, M', SL', S') := by
  rintro ⟨k, a, b, c, d⟩ h hof x hx L Z S M R SL
  match k, h, hof, hx with
  | 0, h, hof, hx =>
    obtain ⟨r, e0, e1, e2⟩ := rank0 (n := a) (k := b) (o := c) h.2.1 h.1 h.2.2.1 hB hT (L := L) (Z := Z) (R := R) hx hof.1 hof.2.1 hof.2.2.1
    refine ⟨r, _, _, _, M, SL, S, e0, e1, ?_⟩
    unfold fX10_rankNow
    dsimp only
    rw [if_pos (by decide), e2, Option.bind_some]
  | 1, h, hof, hx =>
    obtain ⟨r, e0, e1, e2⟩ := rank1 (n := a) (o := b) h.1 h.2.1 h.2.2.1 hF (L := L) (Z := Z) (R := R) hx hof.1 hof.2.1
    refine ⟨r, _, _, _, M, SL, S, e0, e1, ?_⟩
    unfold fX10_rankNow
    dsimp only
    rw [if_neg (by decide), if_pos (by decide), e2, Option.bind_some]
  | 2, h, hof, hx =>
    obtain ⟨r, S', e0, e1, e2⟩ := rank2 (tp := b) (p := a) h.2.2.1 h.2.1 hB hC (L := L) (Z := Z) (R := R) (S := S) hx hof.1 hof.2.1
    refine ⟨r, _, _, _, M, SL, S', e0, e1, ?_⟩
    unfold fX10_rankNow
    dsimp only
    rw [if_neg (by decide), if_neg (by decide), if_pos (by decide), e2, Option.bind_some]
  | 3, h, hof, hx =>
    obtain ⟨r, R', Z', SL', S', e0, e1, e2⟩ := rank3 (n := a) h.1 h.2.1 hV hK (L := L) (Z := Z) (S := S) (R := R) (SL := SL) hx hof.1
    refine ⟨r, _, _, _, M, SL', S', e0, e1, ?_⟩
    unfold fX10_rankNow
    dsimp only
    rw [if_neg (by decide), if_neg (by decide), if_neg (by decide), if_pos (by decide), e2, Option.bind_some]
  | 4, h, hof, hx =>
    have := h.2.1; have := h.2.2.2.1
    obtain ⟨r, e0, e1, e2⟩ := rank4 (g := b) (n := a) (by omega) (by omega) hQ hP (L := L) (Z := Z) (R := R) hx hof.1
    refine ⟨r, _, _, _, M, SL, S, e0, e1, ?_⟩
    unfold fX10_rankNow
    dsimp only
    rw [if_neg (by decide), if_neg (by decide), if_neg (by decide), if_neg (by decide), if_pos (by decide), e2, Option.bind_some]
  | 5, h, hof, hx =>
    obtain ⟨r, L1, L2, e0, e1, e2⟩ := rank5 (c := c4 a b c d) h.2 hB hT (L := L) (L' := M) (Z := Z) (R := R) hx (gof_L4 hof)
    refine ⟨r, _, _, _, L2, SL, S, e0, e1, ?_⟩
    unfold fX10_rankNow
    dsimp only
    rw [if_neg (by decide), if_neg (by decide), if_neg (by decide), if_neg (by decide), if_neg (by decide)]
    refine (congrArg (fun z => Option.bind z _) e2).trans ?_
    rfl
  | _ + 6, h, hof, hx => exact h.elim
theorem uu_lay {B T K P C V : Nat → Int64} {Q : Nat → Int32} (hB : TB B) (hQ : TQ Q) (hT : TC T) (hK : TK K) (hP : TP P) (hC : TL C) (hV : TK V) {of : Nat → Int32} : ∀ {G : Gm}, gok G → gof G of → ∀ {r : Nat}, r < gz G → ∀ (x x' L Z S M : Nat → Int32) (R SL : Nat → Int64), ∃ w w' L' R' Z' M' SL' S', v_lay x (gf G) L R Z B Q V (lN r) = some (w, L', R', Z') ∧ fX10_makes (nI G.1) M x' SL S K T C of P (lN r) = some (M', w', SL', S') ∧ ∀ j, j < gl G → w j = w' j := by
  rintro ⟨k, a, b, c, d⟩ h hof r hr x x' L Z S M R SL
  match k, h, hof, hr with
  | 0, h, hof, hr =>
    obtain ⟨w, w', e1, e2, e3⟩ := lay0 (n := a) (k := b) (o := c) h.2.1 h.1 h.2.2.1 hB hT (L := L) (Z := Z) (R := R) hr hof.1 hof.2.1 hof.2.2.1 x x'
    refine ⟨w, w', _, _, _, M, SL, S, e1, ?_, fun j hj => (e3 j hj).1⟩
    unfold fX10_makes
    dsimp only
    rw [if_pos (by decide), e2, Option.bind_some]
  | 1, h, hof, hr =>
    have h9 := (gz_ok (G := (1, a, b, c, d)) h).2.1
    obtain ⟨w, w', SL', e1, e2, e3⟩ := lay1 (n := a) (o := b) h.1 h.2.1 h.2.2.1 (L := L) (Z := Z) (R := R) (S := SL) (r := r) (by omega) hof.1 hof.2.1 x x'
    refine ⟨w, w', _, _, _, M, SL', S, e1, ?_, fun j hj => (e3 j hj).1⟩
    unfold fX10_makes
    dsimp only
    rw [if_neg (by decide), if_pos (by decide), e2, Option.bind_some]
  | 2, h, hof, hr =>
    obtain ⟨w, w', S', e1, e2, e3⟩ := lay2 (tp := b) (p := a) h.2.2.1 h.2.1 hB hC (L := L) (Z := Z) (R := R) (S := S) hof.1 hof.2.1 hr x x'
    refine ⟨w, w', _, _, _, M, SL, S', e1, ?_, fun j hj => (e3 j hj).1⟩
    unfold fX10_makes
    dsimp only
    rw [if_neg (by decide), if_neg (by decide), if_pos (by decide), e2, Option.bind_some]
  | 3, h, hof, hr =>
    obtain ⟨w, w', R', Z', SL', S', e1, e2, e3⟩ := lay3 (n := a) h.1 h.2.1 hV hK (L := L) (Z := Z) (S := S) (R := R) (SL := SL) hof.1 hr x x'
    refine ⟨w, w', _, _, _, M, SL', S', e1, ?_, fun j hj => (e3 j hj).1⟩
    unfold fX10_makes
    dsimp only
    rw [if_neg (by decide), if_neg (by decide), if_neg (by decide), if_pos (by decide), e2, Option.bind_some]
  | 4, h, hof, hr =>
    have := h.2.1; have := h.2.2.2.1
    obtain ⟨w, w', e1, e2, e3⟩ := lay4 (g := b) (n := a) (by omega) (by omega) hQ hP (L := L) (Z := Z) (R := R) hof.1 hr x x'
    refine ⟨w, w', _, _, _, M, SL, S, e1, ?_, fun j hj => (e3 j hj).1⟩
    unfold fX10_makes
    dsimp only
    rw [if_neg (by decide), if_neg (by decide), if_neg (by decide), if_neg (by decide), if_pos (by decide), e2, Option.bind_some]
  | 5, h, hof, hr =>
    obtain ⟨w, w', L1, L2, e1, e2, e3⟩ := lay5 (c := c4 a b c d) h.1 h.2 hB hT (L := L) (L' := M) (Z := Z) (R := R) (gof_L4 hof) hr x x'
    refine ⟨w, w', _, _, _, L2, SL, S, e1, ?_, fun j hj => (e3 j hj).1⟩
    unfold fX10_makes
    dsimp only
    rw [if_neg (by decide), if_neg (by decide), if_neg (by decide), if_neg (by decide), if_neg (by decide)]
    refine (congrArg (fun z => Option.bind z _) e2).trans ?_
    rfl
  | _ + 6, h, hof, hr => exact h.elim
