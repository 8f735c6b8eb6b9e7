/-! ===== the kinds together, 7: both sortings ===== -/
def Srt (f : Nat → Nat) (n : Nat) : Prop := ∀ i j, i < j → j < n → f i ≤ f j
def ky (X : Nat → Gm × Nat) : Nat → Nat := fun e => enc (X e)
theorem cn_sw {X : Nat → Gm × Nat} {e x : Nat} : ∀ n, (n ≤ e → cn (ky (sw X e)) x n = cn (ky X) x n) ∧ (e + 2 ≤ n → cn (ky (sw X e)) x n = cn (ky X) x n)
  | 0 => ⟨fun _ => by rw [show cn (ky (sw X e)) x 0 = 0 from rfl, show cn (ky X) x 0 = 0 from rfl], fun h => by omega⟩
  | n + 1 => by
    obtain ⟨h1, h2⟩ := cn_sw (X := X) (e := e) (x := x) n
    constructor
    · intro h
      rw [cn_s, cn_s, h1 (by omega), show ky (sw X e) n = ky X n from congrArg enc (sw_n (by omega) (by omega))]
    · intro h
      by_cases c : n = e + 1
      · subst c
        have h3 := (cn_sw (X := X) (e := e) (x := x) e).1 (Nat.le_refl e)
        rw [cn_s, cn_s, cn_s, cn_s, h3, show ky (sw X e) e = ky X (e + 1) from congrArg enc (sw_0 X e), show ky (sw X e) (e + 1) = ky X e from congrArg enc (sw_1 X e)]
        omega
      · rw [cn_s, cn_s, h2 (by omega), show ky (sw X e) n = ky X n from congrArg enc (sw_n (by omega) (by omega))]
theorem tpr_sw {X : Nat → Gm × Nat} {e : Nat} : ∀ n, (n ≤ e → tpr (sw X e) n = tpr X n) ∧ (e + 2 ≤ n → tpr (sw X e) n = tpr X n)
  | 0 => ⟨fun _ => rfl, fun h => by omega⟩
  | n + 1 => by
    obtain ⟨h1, h2⟩ := tpr_sw (X := X) (e := e) n
    constructor
    · intro h
      show tpr (sw X e) n * gz (sw X e n).1 = tpr X n * gz (X n).1
      rw [h1 (by omega), sw_n (by omega) (by omega)]
    · intro h
      by_cases c : n = e + 1
      · subst c
        have h3 := (tpr_sw (X := X) (e := e) e).1 (Nat.le_refl e)
        show tpr (sw X e) e * gz (sw X e e).1 * gz (sw X e (e + 1)).1 = tpr X e * gz (X e).1 * gz (X (e + 1)).1
        rw [h3, sw_0, sw_1, Nat.mul_assoc, Nat.mul_comm (gz _) (gz _), ← Nat.mul_assoc]
      · show tpr (sw X e) n * gz (sw X e n).1 = tpr X n * gz (X n).1
        rw [h2 (by omega), sw_n (by omega) (by omega)]
theorem srt_uniq {f g : Nat → Nat} : ∀ n, Srt f n → Srt g n → (∀ x, cn f x n = cn g x n) → ∀ j, j < n → f j = g j
  | 0, _, _, _, j, hj => by omega
  | n + 1, hf, hg, hc, j, hj => by
    have top : ∀ {f g : Nat → Nat}, Srt g (n + 1) → (∀ x, cn f x (n + 1) = cn g x (n + 1)) → f n ≤ g n := by
      intro f g hg hc
      have h1 := hc (f n)
      rw [cn_s, if_pos rfl] at h1
      obtain ⟨k, k1, k2⟩ := cn_pos (v := g) (m := f n) (i := n + 1) (by omega)
      by_cases e : k = n
      · subst e; omega
      · have := hg k n (by omega) (by omega); omega
    have e1 := top hg hc
    have e2 := top hf (fun x => (hc x).symm)
    have e3 : f n = g n := by omega
    by_cases c : j = n
    · subst c; exact e3
    · refine srt_uniq n (fun a b h1 h2 => hf a b h1 (by omega)) (fun a b h1 h2 => hg a b h1 (by omega)) (fun x => ?_) j (by omega)
      have := hc x
      rw [cn_s, cn_s, e3] at this
      omega
/-- the flag tells whether anything was exchanged; then the entries weren't sorted at the start -/
def FI (X0 X : Nat → Gm × Nat) (u : Nat) (v : Int32) : Prop := (v = 0 ∧ X = X0 ∨ v = 1 ∧ ¬ Srt (ky X0) u) ∧ (∀ x, cn (ky X) x u = cn (ky X0) x u) ∧ tpr X u = tpr X0 u ∧ ∀ e, e < u → OKx (X e)
theorem FI_sw {X0 X : Nat → Gm × Nat} {u e : Nat} {v : Int32} (h : FI X0 X u v) (he : e + 1 < u) (hk : ¬ enc (X e) ≤ enc (X (e + 1))) : FI X0 (sw X e) u 1 := by
  obtain ⟨h1, h2, h3, h4⟩ := h
  refine ⟨Or.inr ⟨rfl, ?_⟩, fun x => ((cn_sw u).2 (by omega)).trans (h2 x), ((tpr_sw u).2 (by omega)).trans h3, fun j hj => ?_⟩
  · rcases h1 with ⟨-, rfl⟩ | ⟨-, h1⟩
    · exact fun z => hk (z e (e + 1) (by omega) he)
    · exact h1
  · by_cases c1 : j = e
    · subst c1; rw [sw_0]; exact h4 _ he
    · by_cases c2 : j = e + 1
      · subst c2; rw [sw_1]; exact h4 _ (by omega)
      · rw [sw_n c1 c2]; exact h4 j hj
theorem x_ins {LP : List Nat} {FP : Nat → Fm} {u n : Nat} {X0 : Nat → Gm × Nat} (hu : u ≤ 10) (hn : n < u) (g : Int32 → Int32 → (Nat → Option Nat) → (Nat → Int64) → Option (Int32 × (Nat → Option Nat) × (Nat → Int64))) : ∀ p f v fa pl (X : Nat → Gm × Nat), p ≤ n → p < f → CE LP FP fa pl X u → FI X0 X u v → (∀ i j, i < j → j ≤ n → i ≠ p → j ≠ p → ky X i ≤ ky X j) → (∀ j, p < j → j ≤ n → ky X p ≤ ky X j) → ∃ v' fa' pl' X', rk_it4 (fX0_arrange_L14 (nI u) LP FP (nI n) g) f v (nI p) fa pl = g v' (nI (n + 1)) fa' pl' ∧ CE LP FP fa' pl' X' u ∧ FI X0 X' u v' ∧ Srt (ky X') (n + 1) := by
  intro p
  have ej : ∀ k : Nat, nI k + 1 = nI (k + 1) := fun k => by rw [l1, q_add]
  induction p with
  | zero =>
    intro f v fa pl X hp hf hc hF h1 h2
    obtain ⟨f, rfl, hf⟩ := suc_of hf
    rw [it4_s]
    unfold fX0_arrange_L14 fX0_arrange_B45
    rw [if_pos (show nI 0 ≤ 0 by decide), ej]
    refine ⟨_, _, _, X, rfl, hc, hF, fun i j hij hj => ?_⟩
    by_cases c : i = 0
    · subst c; exact h2 j hij (by omega)
    · exact h1 i j hij (by omega) c (by omega)
  | succ p ih =>
    intro f v fa pl X hp hf hc hF h1 h2
    obtain ⟨f, rfl, hf⟩ := suc_of hf
    obtain ⟨c, e1, e2⟩ := x_cmp hc hu (e := p) (by omega)
    rw [it4_s]
    unfold fX0_arrange_L14 fX0_arrange_B45
    rw [if_neg (show ¬ nI (p + 1) ≤ 0 by rw [l0, q_le (by omega) (by omega)]; omega), show nI (p + 1) - 1 = nI p from by rw [l1, q_sub (by omega)]; rfl, e1, Option.bind_some]
    by_cases w : c ≤ 0
    · rw [if_pos w, ej]
      refine ⟨_, _, _, X, rfl, hc, hF, fun i j hij hj => ?_⟩
      have hw : ky X p ≤ ky X (p + 1) := e2.mp w
      by_cases c1 : i = p + 1
      · subst c1; exact h2 j hij (by omega)
      · by_cases c2 : j = p + 1
        · subst c2
          by_cases c3 : i = p
          · subst c3; exact hw
          · have := h1 i p (by omega) (by omega) (by omega) (by omega); omega
        · exact h1 i j hij (by omega) c1 c2
    · obtain ⟨fa', pl', e3, e4⟩ := x_exch hc hu (e := p) (by omega)
      have hw : ¬ enc (X p) ≤ enc (X (p + 1)) := fun z => w (e2.mpr z)
      have k0 : ky (sw X p) p = ky X (p + 1) := congrArg enc (sw_0 X p)
      have k1 : ky (sw X p) (p + 1) = ky X p := congrArg enc (sw_1 X p)
      have kn : ∀ j, j ≠ p → j ≠ p + 1 → ky (sw X p) j = ky X j := fun j a b => congrArg enc (sw_n a b)
      have hw' : ¬ ky X p ≤ ky X (p + 1) := hw
      rw [if_neg w, e3, Option.bind_some, pred_nI]
      refine ih f 1 fa' pl' (sw X p) (by omega) (by omega) e4 (FI_sw hF (by omega) hw) (fun i j hij hj ci cj => ?_) (fun j hj hjn => ?_)
      · by_cases c1 : i = p + 1
        · subst c1
          rw [k1, kn j (by omega) (by omega)]
          exact h1 p j (by omega) hj (by omega) (by omega)
        · by_cases c2 : j = p + 1
          · subst c2
            rw [k1, kn i ci c1]
            exact h1 i p (by omega) (by omega) (by omega) (by omega)
          · rw [kn i ci c1, kn j cj c2]
            exact h1 i j hij hj c1 c2
      · rw [k0]
        by_cases c2 : j = p + 1
        · subst c2; rw [k1]; omega
        · rw [kn j (by omega) c2]
          exact h2 j (by omega) hjn
theorem x_arrange {LP : List Nat} {FP : Nat → Fm} {fa : Nat → Option Nat} {pl : Nat → Int64} {X0 : Nat → Gm × Nat} {u : Nat} (hc : CE LP FP fa pl X0 u) (hu : u ≤ 10) : ∃ v fa' pl' X', fX0_arrange LP FP (nI u) fa pl = some (v, fa', pl') ∧ CE LP FP fa' pl' X' u ∧ FI X0 X' u v ∧ Srt (ky X') u := by
  have key : ∀ d n f v fa pl (X : Nat → Gm × Nat), 1 ≤ n → u ≤ n + d → n ≤ 11 → d < f → CE LP FP fa pl X u → FI X0 X u v → Srt (ky X) (min n u) → ∃ v' fa' pl' X', rk_it4 (fX0_arrange_L4 (nI u) LP FP) f v (nI n) fa pl = some (v', fa', pl') ∧ CE LP FP fa' pl' X' u ∧ FI X0 X' u v' ∧ Srt (ky X') u := by
    intro d
    induction d with
    | zero =>
      intro n f v fa pl X h1 h2 h3 hf hc hF hS
      obtain ⟨f, rfl, -⟩ := suc_of hf
      rw [it4_s]
      unfold fX0_arrange_L4
      rw [if_pos (by rw [q_le (by omega) (by omega)]; omega), if_pos (v01 (p := ¬ Srt (ky X0) u) (by
        rcases hF.1 with ⟨a, -⟩ | a
        · exact Or.inl a
        · exact Or.inr a))]
      refine ⟨_, _, _, X, rfl, hc, hF, ?_⟩
      rw [Nat.min_eq_right (by omega)] at hS; exact hS
    | succ d ih =>
      intro n f v fa pl X h1 h2 h3 hf hc hF hS
      obtain ⟨f, rfl, hf⟩ := suc_of hf
      have ih := fun v fa pl X hn => ih (n + 1) f v fa pl X (by omega) (by omega) hn (by omega)
      rw [it4_s]
      by_cases c : u ≤ n
      · unfold fX0_arrange_L4
        rw [if_pos (by rw [q_le (by omega) (by omega)]; omega), if_pos (v01 (p := ¬ Srt (ky X0) u) (by
          rcases hF.1 with ⟨a, -⟩ | a
          · exact Or.inl a
          · exact Or.inr a))]
        refine ⟨_, _, _, X, rfl, hc, hF, ?_⟩
        rw [Nat.min_eq_right c] at hS; exact hS
      · generalize rk_it4 (fX0_arrange_L4 (nI u) LP FP) f = g at ih ⊢
        unfold fX0_arrange_L4
        rw [if_neg (by rw [q_le (by omega) (by omega)]; omega)]
        rw [Nat.min_eq_left (by omega)] at hS
        obtain ⟨v', fa', pl', X', e1, e2, e3, e4⟩ := x_ins (LP := LP) (FP := FP) hu (n := n) (by omega) g n FU v fa pl X (Nat.le_refl n) (FU_gt (by omega)) hc hF (fun i j hij hj ci cj => hS i j hij (by omega)) (fun j h4 h5 => by omega)
        rw [e1]
        exact ih v' fa' pl' X' (by omega) e2 e3 (by rw [Nat.min_eq_left (by omega)]; exact e4)
  unfold fX0_arrange
  rw [l0, l1]
  exact key u 1 FU (nI 0) fa pl X0 (Nat.le_refl 1) (by omega) (by omega) (FU_gt (by omega)) hc ⟨Or.inl ⟨rfl, rfl⟩, fun x => rfl, rfl, fun e he => ⟨(hc e he).1, (hc e he).2.1⟩⟩ (fun i j h1 h2 => by omega)
/-- after k rounds the last k stand where they belong -/
def Tk (f : Nat → Nat) (u k : Nat) : Prop := ∀ i j, i < j → j < u → u ≤ j + k → f i ≤ f j
theorem m_pass {u k : Nat} {X0 : Nat → Gm × Nat} (hu : u ≤ 10) (hk : k < u) {v : Int32} {eF eO : Nat → Int32} {eR : Nat → Int64} {X : Nat → Gm × Nat} (hm : ME eF eO eR X u) (hF : FI X0 X u v) (hT : Tk (ky X) u k) : ∃ v' eF' eO' eR' X', ME eF' eO' eR' X' u ∧ FI X0 X' u v' ∧ Tk (ky X') u (k + 1) ∧ ∀ g, rk_it5 (fX10_sort_L14 (nI u) (nI k) g) FU v 0 eF eO eR = g v' (nI (k + 1)) eF' eO' eR' := by
  have ej : ∀ k : Nat, nI k + 1 = nI (k + 1) := fun k => by rw [l1, q_add]
  obtain ⟨v', e, eF', eO', eR', ⟨rfl, X', h1, h2, h3, h4⟩, h⟩ := lpK5 (fun q => fX10_sort_L14 (nI u) (nI k) q) (fun e v a eF eO eR => a = nI e ∧ ∃ X, ME eF eO eR X u ∧ FI X0 X u v ∧ Tk (ky X) u k ∧ ∀ i, i < min e (u - k - 1) → ky X i ≤ ky X (min e (u - k - 1))) (u - 1) (by
    rintro e v a eF eO eR he ⟨rfl, X, hm, hF, hT, hJ⟩
    obtain ⟨c, c1, c2⟩ := m_cmp hm hF.2.2.2 hu (e := e) (by omega)
    by_cases w : c = 0
    · refine ⟨v, nI (e + 1), eF, eO, eR, ⟨rfl, X, hm, hF, hT, fun i hi => ?_⟩, fun q g => ?_⟩
      · have hw : ky X e ≤ ky X (e + 1) := c2.mp w
        by_cases d : e < u - k - 1
        · rw [Nat.min_eq_left (show e + 1 ≤ u - k - 1 by omega)] at hi ⊢
          rw [Nat.min_eq_left (show e ≤ u - k - 1 by omega)] at hJ
          by_cases x : i = e
          · subst x; exact hw
          · have := hJ i (by omega); omega
        · rw [Nat.min_eq_right (show u - k - 1 ≤ e + 1 by omega)] at hi ⊢
          rw [Nat.min_eq_right (show u - k - 1 ≤ e by omega)] at hJ
          exact hJ i hi
      · unfold fX10_sort_L14 fX10_sort_B39
        rw [ej, if_neg (by rw [q_le (by omega) (by omega)]; omega), c1, Option.bind_some, if_pos w]
    · obtain ⟨eF', eO', eR', x1, x2⟩ := m_exch hm hu (e := e) (by omega)
      have hw : ¬ ky X e ≤ ky X (e + 1) := fun z => w (c2.mpr z)
      have d : e < u - k - 1 := by
        by_cases d : e < u - k - 1
        · exact d
        · exact absurd (hT e (e + 1) (by omega) (by omega) (by omega)) hw
      have k0 : ky (sw X e) e = ky X (e + 1) := congrArg enc (sw_0 X e)
      have k1 : ky (sw X e) (e + 1) = ky X e := congrArg enc (sw_1 X e)
      have kn : ∀ j, j ≠ e → j ≠ e + 1 → ky (sw X e) j = ky X j := fun j a b => congrArg enc (sw_n a b)
      refine ⟨1, nI (e + 1), eF', eO', eR', ⟨rfl, sw X e, x2, FI_sw hF (by omega) hw, fun i j hij hj hjk => ?_, fun i hi => ?_⟩, fun q g => ?_⟩
      · rw [kn j (by omega) (by omega)]
        by_cases a : i = e
        · subst a; rw [k0]; exact hT (i + 1) j (by omega) hj hjk
        · by_cases b : i = e + 1
          · subst b; rw [k1]; exact hT e j (by omega) hj hjk
          · rw [kn i a b]; exact hT i j hij hj hjk
      · rw [Nat.min_eq_left (show e + 1 ≤ u - k - 1 by omega)] at hi ⊢
        rw [Nat.min_eq_left (show e ≤ u - k - 1 by omega)] at hJ
        rw [k1]
        by_cases x : i = e
        · subst x; rw [k0]; omega
        · rw [kn i x (by omega)]; exact hJ i (by omega)
      · unfold fX10_sort_L14 fX10_sort_B39
        rw [ej, if_neg (by rw [q_le (by omega) (by omega)]; omega), c1, Option.bind_some, if_neg w, x1, Option.bind_some]) (u - 1) 0 v (nI 0) eF eO eR FU (by omega) (FU_gt (by omega)) ⟨rfl, X, hm, hF, hT, fun i hi => by rw [Nat.min_eq_left (by omega)] at hi; omega⟩
  refine ⟨v', eF', eO', eR', X', h1, h2, fun i j hij hj hjk => ?_, fun g => ?_⟩
  · by_cases c : u ≤ j + k
    · exact h3 i j hij hj c
    · rw [Nat.min_eq_right (show u - k - 1 ≤ u - 1 by omega)] at h4
      have : j = u - k - 1 := by omega
      subst this
      exact h4 i hij
  · obtain ⟨m, hm⟩ := h g
    rw [l0, hm]
    unfold fX10_sort_L14
    rw [ej, if_pos (by rw [q_le (by omega) (by omega)]; omega), ej]
theorem m_sort {eF eO : Nat → Int32} {eR : Nat → Int64} {X0 : Nat → Gm × Nat} {u : Nat} (hm : ME eF eO eR X0 u) (ho : ∀ e, e < u → OKx (X0 e)) (hu : u ≤ 10) : ∃ v eF' eO' eR' X', fX10_sort (nI u) eF eO eR = some (v, eF', eO', eR') ∧ ME eF' eO' eR' X' u ∧ FI X0 X' u v ∧ Srt (ky X') u := by
  unfold fX10_sort
  obtain ⟨v', e, eF', eO', eR', m, ⟨rfl, X', h1, h2, h3⟩, h⟩ := lpG5 (fX10_sort_L4 (nI u)) (fun k v a eF eO eR => a = nI k ∧ ∃ X, ME eF eO eR X u ∧ FI X0 X u v ∧ Tk (ky X) u k) u (by
    rintro k v a eF eO eR hk ⟨rfl, X, hm, hF, hT⟩
    obtain ⟨v', eF', eO', eR', X', a1, a2, a3, a4⟩ := m_pass hu hk hm hF hT
    refine ⟨v', _, eF', eO', eR', ⟨rfl, X', a1, a2, a3⟩, fun g => ?_⟩
    unfold fX10_sort_L4
    rw [if_neg (by rw [q_le (by omega) (by omega)]; omega), a4]) u 0 (nI 0) (nI 0) eF eO eR FU (by omega) (FU_gt (by omega)) ⟨rfl, X0, hm, ⟨Or.inl ⟨rfl, rfl⟩, fun x => rfl, rfl, ho⟩, fun i j h1 h2 h3 => by omega⟩
  rw [l0, h]
  unfold fX10_sort_L4
  rw [if_pos (by rw [q_le (by omega) (by omega)]; omega)]
  exact ⟨v', eF', eO', eR', X', rfl, h1, h2, fun i j hij hj => h3 i j hij hj (by omega)⟩
theorem op_sort {LP : List Nat} {FP : Nat → Fm} {us em : Int32} {pr : Int64} {fa : Nat → Option Nat} {pl eR : Nat → Int64} {eF eO : Nat → Int32} (h : RA LP FP us pr fa pl em eF eO eR) : ∃ v fa' pl' eF' eO' eR', fX9_sort LP FP us fa pl = some (v, fa', pl') ∧ fX10_sort em eF eO eR = some (v, eF', eO', eR') ∧ RA LP FP us pr fa' pl' em eF' eO' eR' := by
  obtain ⟨X, u, hu, rfl, rfl, rfl, hb, hc, hm⟩ := h
  obtain ⟨v, fa', pl', X1, a1, a2, a3, a4⟩ := x_arrange hc hu
  obtain ⟨v', eF', eO', eR', X2, b1, b2, b3, b4⟩ := m_sort hm (fun e he => ⟨(hc e he).1, (hc e he).2.1⟩) hu
  have hk := srt_uniq u a4 b4 (fun x => (a3.2.1 x).trans (b3.2.1 x).symm)
  have hx : ∀ j, j < u → X1 j = X2 j := fun j hj => enc_inj (a3.2.2.2 j hj) (b3.2.2.2 j hj) (hk j hj)
  have hv : v = v' := by
    rcases a3.1 with ⟨rfl, e⟩ | ⟨rfl, e⟩ <;> rcases b3.1 with ⟨rfl, e'⟩ | ⟨rfl, e'⟩
    · rfl
    · subst e; exact absurd a4 e'
    · subst e'; exact absurd b4 e
    · rfl
  subst hv
  refine ⟨v, fa', pl', eF', eO', eR', ?_, b1, X1, u, hu, rfl, rfl, by rw [a3.2.2.1], by rw [a3.2.2.1]; exact hb, a2, fun e he => ?_⟩
  · unfold fX9_sort
    rw [a1, Option.bind_some]
    dsimp only
    rcases a3.1 with ⟨rfl, -⟩ | ⟨rfl, -⟩
    · exact if_pos rfl
    · exact if_neg (by decide)
  · rw [hx e he]; exact b2 e he
