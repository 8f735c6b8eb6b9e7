/-! ===== pure part 33: trees, mirrored ===== -/
def wr (q s : Nat) (u : Nat → Nat) (w : Nat → Int32) : Nat → Int32 := fun j => if q ≤ j ∧ j < q + s then nI (u (j - q)) else w j
theorem wr_0 {q : Nat} {u : Nat → Nat} {w : Nat → Int32} : wr q 0 u w = w := by funext j; exact if_neg (by omega)
theorem wr_in {q s j : Nat} {u : Nat → Nat} {w : Nat → Int32} (h : q ≤ j) (h2 : j < q + s) : wr q s u w j = nI (u (j - q)) := if_pos ⟨h, h2⟩
theorem wr_out {q s j : Nat} {u : Nat → Nat} {w : Nat → Int32} (h : j < q ∨ q + s ≤ j) : wr q s u w j = w j := if_neg (by omega)
def cmb (a y : Nat) (u1 u2 : Nat → Nat) : Nat → Nat := fun k => if k = 0 then a else if k - 1 < y then u1 (k - 1) else u2 (k - 1 - y)
theorem wr_cmb {q y x a : Nat} {u1 u2 : Nat → Nat} {w : Nat → Int32} : wr (q + 1) y u1 (wr (q + 1 + y) x u2 (upd w q (nI a))) = wr q (y + x + 1) (cmb a y u1 u2) w := by
  funext j
  rcases (by omega : j < q ∨ j = q ∨ (q + 1 ≤ j ∧ j < q + 1 + y) ∨ (q + 1 + y ≤ j ∧ j < q + 1 + y + x) ∨ q + 1 + y + x ≤ j) with h | h | h | h | h
  · rw [wr_out (by omega), wr_out (by omega), upd_n (by omega), wr_out (by omega)]
  · subst h; rw [wr_out (by omega), wr_out (by omega), upd_s, wr_in (by omega) (by omega), Nat.sub_self]; rfl
  · rw [wr_in h.1 h.2, wr_in (by omega) (by omega)]
    unfold cmb; rw [if_neg (by omega), if_pos (by omega), Nat.sub_sub]
  · rw [wr_out (by omega), wr_in h.1 h.2, wr_in (by omega) (by omega)]
    unfold cmb; rw [if_neg (by omega), if_neg (by omega), show j - q - 1 - y = j - (q + 1 + y) by omega]
  · rw [wr_out (by omega), wr_out (by omega), upd_n (by omega), wr_out (by omega)]
theorem wr_cmb' {q y x a : Nat} {u1 u2 : Nat → Nat} {w : Nat → Int32} : wr (q + 1 + y) x u2 (wr (q + 1) y u1 (upd w q (nI a))) = wr q (y + x + 1) (cmb a y u1 u2) w := by
  rw [← wr_cmb]
  funext j
  by_cases h1 : q + 1 + y ≤ j ∧ j < q + 1 + y + x
  · rw [wr_in h1.1 h1.2, wr_out (by omega), wr_in h1.1 h1.2]
  · rw [wr_out (by omega)]
    by_cases h2 : q + 1 ≤ j ∧ j < q + 1 + y
    · rw [wr_in h2.1 h2.2, wr_in h2.1 h2.2]
    · rw [wr_out (by omega), wr_out (by omega), wr_out (by omega)]
def Gd (P : Nat → Nat → Prop) (v : Nat → Nat) : Nat → Nat → Nat → Prop
  | 0, _, s => s = 0
  | f + 1, p, s => 0 < s → P p s ∧ v p + 1 ≤ s ∧ Gd P v f (p + 1) (v p) ∧ Gd P v f (p + 1 + v p) (s - 1 - v p)
theorem prs_1 {s : Nat} {r : List Nat} (c : 0 < s) : prs s r = s :: r := if_pos c
theorem prs_0 {r : List Nat} : prs 0 r = r := rfl
theorem gd_of {n : Nat} {v : Nat → Nat} {P : Nat → Nat → Prop} (hv : ∀ i, i < n → v i + 1 ≤ hd (ts n v i)) (hP : ∀ i, i < n → P i (hd (ts n v i))) : ∀ f p s r, s ≤ f → ts n v p = prs s r → p + s ≤ n → Gd P v f p s ∧ ts n v (p + s) = r := by
  intro f
  induction f with
  | zero =>
    intro p s r hs e hp
    obtain rfl : s = 0 := by omega
    exact ⟨rfl, e⟩
  | succ f ih =>
    intro p s r hs e hp
    by_cases c : 0 < s
    · rw [prs_1 c] at e
      have h1 := hv p (by omega)
      have h2 := hP p (by omega)
      have h3 := ts_s n v p
      rw [e] at h1 h2 h3
      have h1 : v p + 1 ≤ s := h1
      have h2 : P p s := h2
      obtain ⟨a1, a2⟩ := ih (p + 1) (v p) (prs (s - 1 - v p) r) (by omega) h3 (by omega)
      obtain ⟨b1, b2⟩ := ih (p + 1 + v p) (s - 1 - v p) r (by omega) a2 (by omega)
      rw [show p + 1 + v p + (s - 1 - v p) = p + s by omega] at b2
      exact ⟨fun _ => ⟨h2, h1, a1, b1⟩, b2⟩
    · obtain rfl : s = 0 := by omega
      exact ⟨fun z => absurd z c, e⟩
theorem acc_of {n : Nat} {v : Nat → Nat} {P : Nat → Nat → Prop} : ∀ f p s r, s ≤ f → Gd P v f p s → ts n v p = prs s r → (∀ j, p ≤ j → j < p + s → v j + 1 ≤ hd (ts n v j)) ∧ ts n v (p + s) = r := by
  intro f
  induction f with
  | zero =>
    intro p s r hs hg e
    obtain rfl : s = 0 := by omega
    exact ⟨fun j h1 h2 => by omega, e⟩
  | succ f ih =>
    intro p s r hs hg e
    by_cases c : 0 < s
    · rw [prs_1 c] at e
      obtain ⟨-, g1, g2, g3⟩ := hg c
      have h3 := ts_s n v p
      have h4 : hd (ts n v p) = s := by rw [e]; rfl
      rw [e] at h3
      obtain ⟨a1, a2⟩ := ih (p + 1) (v p) (prs (s - 1 - v p) r) (by omega) g2 h3
      obtain ⟨b1, b2⟩ := ih (p + 1 + v p) (s - 1 - v p) r (by omega) g3 a2
      rw [show p + 1 + v p + (s - 1 - v p) = p + s by omega] at b2
      refine ⟨fun j h1 h2 => ?_, b2⟩
      by_cases q1 : j = p
      · subst q1; rw [h4]; exact g1
      · by_cases q2 : j < p + 1 + v p
        · exact a1 j (by omega) q2
        · exact b1 j (by omega) (by omega)
    · obtain rfl : s = 0 := by omega
      exact ⟨fun j h1 h2 => by omega, e⟩
def hi (s l : Nat) : Nat := if 0 < s then l + 1 else l
theorem x_mir_step {n : Nat} (hn : n ≤ 30) {b Z : Nat → Int32} {k : Int32} {p s q x : Nat} {w St : Nat → Int32} (g : Int32 → (Nat → Int32) → (Nat → Int32) → Option ((Nat → Int32) × (Nat → Int32) × (Nat → Int32))) (hb : b p = nI x) (hz : Z p = nI s) (hx : x + 1 ≤ s) (hp : p + s ≤ n) (hq : q + s ≤ 60) (hSt : St p = nI q) : ∃ St', fX7_turn_L25 (nI n) b (k, Z) g (nI p) w St = g (nI (p + 1)) (upd w q (nI (s - 1 - x))) St' ∧ (∀ j, p + s ≤ j → St' j = St j) ∧ (0 < x → St' (p + 1) = nI (q + 1 + (s - 1 - x))) ∧ (0 < s - 1 - x → St' (p + 1 + x) = nI (q + 1)) := by
  have er : nI s - 1 - nI x = nI (s - 1 - x) := by rw [l1, q_sub (by omega), q_sub (by omega)]
  have ej : ∀ k : Nat, nI k + 1 = nI (k + 1) := fun k => by rw [l1, q_add]
  unfold fX7_turn_L25 fX7_turn_B100 fX7_turn_B123
  rw [if_neg (by rw [q_le (by omega) (by omega)]; omega), q_at (by omega) (by omega), Option.bind_some, q_at (by omega) (by omega), Option.bind_some, q_at (by omega) (by omega), Option.bind_some, hb, hSt, show (k, Z).2 = Z from rfl, hz, er, q_set (by omega) (by omega), Option.bind_some, ej, ej, q_add, q_add]
  by_cases c : 0 < x
  · rw [if_neg (show ¬ nI x ≤ 0 by rw [l0, q_le (by omega) (by omega)]; omega), q_set (by omega) (by omega), Option.bind_some]
    by_cases c2 : 0 < s - 1 - x
    · rw [if_neg (show ¬ nI (s - 1 - x) ≤ 0 by rw [l0, q_le (by omega) (by omega)]; omega), q_set (by omega) (by omega), Option.bind_some]
      exact ⟨_, rfl, fun j hj => by rw [upd_n (by omega), upd_n (by omega)], fun _ => by rw [upd_n (by omega), upd_s], fun _ => by rw [upd_s]⟩
    · rw [if_pos (show nI (s - 1 - x) ≤ 0 by rw [l0, q_le (by omega) (by omega)]; omega)]
      exact ⟨_, rfl, fun j hj => by rw [upd_n (by omega)], fun _ => by rw [upd_s], fun z => absurd z c2⟩
  · rw [if_pos (show nI x ≤ 0 by rw [l0, q_le (by omega) (by omega)]; omega)]
    by_cases c2 : 0 < s - 1 - x
    · rw [if_neg (show ¬ nI (s - 1 - x) ≤ 0 by rw [l0, q_le (by omega) (by omega)]; omega), q_set (by omega) (by omega), Option.bind_some]
      exact ⟨_, rfl, fun j hj => by rw [upd_n (by omega)], fun z => absurd z c, fun _ => by rw [upd_s]⟩
    · rw [if_pos (show nI (s - 1 - x) ≤ 0 by rw [l0, q_le (by omega) (by omega)]; omega)]
      exact ⟨_, rfl, fun j hj => rfl, fun z => absurd z c, fun z => absurd z c2⟩
theorem m_mir_step {n : Nat} (hn : n ≤ 30) {b of : Nat → Int32} (h0 : of 0 = nI n) {p s q x l : Nat} {w S1 S2 : Nat → Int32} (g : Int32 → Int32 → (Nat → Int32) → (Nat → Int32) → (Nat → Int32) → Option ((Nat → Int32) × (Nat → Int32) × (Nat → Int32))) (hb : b p = nI x) (hx : x + 1 ≤ s) (hp : p + s ≤ n) (hq : q + s ≤ n) (hl : l + s ≤ 60) (h1 : S1 l = nI p) (h2 : S2 l = nI s) : ∃ S1' S2', fX10_mirrorsTree_L23 b of g (nI (l + 1)) (nI q) w S1 S2 = g (nI (hi (s - 1 - x) (hi x l))) (nI (q + 1)) (upd w q (nI (s - 1 - x))) S1' S2' ∧ (∀ j, j < l → S1' j = S1 j ∧ S2' j = S2 j) ∧ (0 < x → S1' l = nI (p + 1) ∧ S2' l = nI x) ∧ (0 < s - 1 - x → S1' (hi x l) = nI (p + 1 + x) ∧ S2' (hi x l) = nI (s - 1 - x)) := by
  have er : nI s - 1 - nI x = nI (s - 1 - x) := by rw [l1, q_sub (by omega), q_sub (by omega)]
  have ej : ∀ k : Nat, nI k + 1 = nI (k + 1) := fun k => by rw [l1, q_add]
  have gl : ∀ k, k < 64 → ¬ (nI k < 0 ∨ 64 ≤ k) := fun k hk => by rw [l0, q_lt (by omega) (by omega)]; omega
  have gp : ∀ k, k < 60 → ¬ (nI k < 0 ∨ 60 ≤ k) := fun k hk => by rw [l0, q_lt (by omega) (by omega)]; omega
  unfold fX10_mirrorsTree_L23 fX10_mirrorsTree_B97 fX10_mirrorsTree_B135 hi
  rw [h0, if_neg (by rw [q_le (by omega) (by omega)]; omega), pred_nI, q_cl (a := l) (by omega), if_neg (gl l (by omega)), h1, h2, q_cl (a := p) (by omega), if_neg (gp p (by omega)), q_cl (a := q) (by omega), if_neg (gp q (by omega)), hb, er, ej, ej, ej, q_add]
  by_cases c : 0 < x
  · rw [if_neg (show ¬ nI x ≤ 0 by rw [l0, q_le (by omega) (by omega)]; omega), if_pos c]
    by_cases c2 : 0 < s - 1 - x
    · rw [if_neg (show ¬ nI (s - 1 - x) ≤ 0 by rw [l0, q_le (by omega) (by omega)]; omega), q_cl (a := l + 1) (by omega), if_neg (gl (l + 1) (by omega)), if_pos c2, ej]
      exact ⟨_, _, rfl, fun j hj => ⟨by rw [upd_n (by omega), upd_n (by omega)], by rw [upd_n (by omega), upd_n (by omega)]⟩, fun _ => ⟨by rw [upd_n (by omega), upd_s], by rw [upd_n (by omega), upd_s]⟩, fun _ => ⟨by rw [upd_s], by rw [upd_s]⟩⟩
    · rw [if_pos (show nI (s - 1 - x) ≤ 0 by rw [l0, q_le (by omega) (by omega)]; omega), if_neg c2]
      exact ⟨_, _, rfl, fun j hj => ⟨by rw [upd_n (by omega)], by rw [upd_n (by omega)]⟩, fun _ => ⟨by rw [upd_s], by rw [upd_s]⟩, fun z => absurd z c2⟩
  · rw [if_pos (show nI x ≤ 0 by rw [l0, q_le (by omega) (by omega)]; omega), if_neg c]
    by_cases c2 : 0 < s - 1 - x
    · rw [if_neg (show ¬ nI (s - 1 - x) ≤ 0 by rw [l0, q_le (by omega) (by omega)]; omega), if_neg (gl l (by omega)), if_pos c2]
      exact ⟨_, _, rfl, fun j hj => ⟨by rw [upd_n (by omega)], by rw [upd_n (by omega)]⟩, fun z => absurd z c, fun _ => ⟨by rw [upd_s], by rw [upd_s]⟩⟩
    · rw [if_pos (show nI (s - 1 - x) ≤ 0 by rw [l0, q_le (by omega) (by omega)]; omega), if_neg c2]
      exact ⟨_, _, rfl, fun j hj => ⟨rfl, rfl⟩, fun z => absurd z c, fun z => absurd z c2⟩
theorem hi_le (s l : Nat) : hi s l ≤ l + 1 ∧ l ≤ hi s l := by unfold hi; split <;> omega
theorem hi_1 {s l : Nat} (c : 0 < s) : hi s l = l + 1 := if_pos c
theorem hi_0 {l : Nat} : hi 0 l = l := rfl
theorem mir {n : Nat} (hn : n ≤ 30) {b of Z : Nat → Int32} (h0 : of 0 = nI n) {v : Nat → Nat} (hb : ∀ i, i < n → b i = nI (v i)) (k : Int32) : ∀ f p s, s ≤ f → Gd (fun p s => Z p = nI s) v f p s → p + s ≤ n → ∃ u : Nat → Nat,
    (∀ q w St g, q + s ≤ 60 → (0 < s → St p = nI q) → ∃ St', (∀ j, p + s ≤ j → St' j = St j) ∧ rk_it3 (fX7_turn_L25 (nI n) b (k, Z)) (g + s) (nI p) w St = rk_it3 (fX7_turn_L25 (nI n) b (k, Z)) g (nI (p + s)) (wr q s u w) St') ∧
    (∀ q l w S1 S2 g, q + s ≤ n → l + s ≤ 60 → (0 < s → S1 l = nI p ∧ S2 l = nI s) → ∃ S1' S2', (∀ j, j < l → S1' j = S1 j ∧ S2' j = S2 j) ∧ rk_it5 (fX10_mirrorsTree_L23 b of) (g + s) (nI (hi s l)) (nI q) w S1 S2 = rk_it5 (fX10_mirrorsTree_L23 b of) g (nI l) (nI (q + s)) (wr q s u w) S1' S2') ∧
    (∀ u' q f', s ≤ f' → (∀ k, k < s → u' (q + k) = u k) → Gd (fun _ _ => True) u' f' q s) ∧ (∀ k, k < s → u k < 31) := by
  intro f
  have triv : ∀ p s, s = 0 → ∃ u : Nat → Nat,
    (∀ q w St g, q + s ≤ 60 → (0 < s → St p = nI q) → ∃ St', (∀ j, p + s ≤ j → St' j = St j) ∧ rk_it3 (fX7_turn_L25 (nI n) b (k, Z)) (g + s) (nI p) w St = rk_it3 (fX7_turn_L25 (nI n) b (k, Z)) g (nI (p + s)) (wr q s u w) St') ∧
    (∀ q l w S1 S2 g, q + s ≤ n → l + s ≤ 60 → (0 < s → S1 l = nI p ∧ S2 l = nI s) → ∃ S1' S2', (∀ j, j < l → S1' j = S1 j ∧ S2' j = S2 j) ∧ rk_it5 (fX10_mirrorsTree_L23 b of) (g + s) (nI (hi s l)) (nI q) w S1 S2 = rk_it5 (fX10_mirrorsTree_L23 b of) g (nI l) (nI (q + s)) (wr q s u w) S1' S2') ∧
    (∀ u' q f', s ≤ f' → (∀ k, k < s → u' (q + k) = u k) → Gd (fun _ _ => True) u' f' q s) ∧ (∀ k, k < s → u k < 31) := by
    rintro p s rfl
    refine ⟨fun _ => 0, fun q w St g _ _ => ⟨St, fun j _ => rfl, by rw [wr_0]; rfl⟩, fun q l w S1 S2 g _ _ _ => ⟨S1, S2, fun j _ => ⟨rfl, rfl⟩, by rw [wr_0]; rfl⟩, fun u' q f' _ _ => ?_, fun k hk => by omega⟩
    cases f' with
    | zero => rfl
    | succ f' => exact fun z => absurd z (by omega)
  induction f with
  | zero => intro p s hs hg hp; exact triv p s (by omega)
  | succ f ih =>
    intro p s hs hg hp
    by_cases c : 0 < s
    · obtain ⟨z1, z2, z3, z4⟩ := hg c
      have v1 := hb p (by omega)
      generalize v p = x at *
      obtain ⟨u2, A2, B2, C2, D2⟩ := ih (p + 1) x (by omega) z3 (by omega)
      obtain ⟨u1, A1, B1, C1, D1⟩ := ih (p + 1 + x) (s - 1 - x) (by omega) z4 (by omega)
      have es : s - 1 - x + x + 1 = s := by omega
      refine ⟨cmb (s - 1 - x) (s - 1 - x) u1 u2, ?_, ?_, ?_, ?_⟩
      · intro q w St g hq hSt
        obtain ⟨St1, e1, a1, a2, a3⟩ := x_mir_step (k := k) (w := w) hn (rk_it3 (fX7_turn_L25 (nI n) b (k, Z)) (g + (s - 1))) v1 z1 z2 hp hq (hSt c)
        obtain ⟨St2, b1, b2⟩ := A2 (q + 1 + (s - 1 - x)) (upd w q (nI (s - 1 - x))) St1 (g + (s - 1 - x)) (by omega) a2
        obtain ⟨St3, c1, c2⟩ := A1 (q + 1) (wr (q + 1 + (s - 1 - x)) x u2 (upd w q (nI (s - 1 - x)))) St2 g (by omega) (fun z => by rw [b1 _ (by omega)]; exact a3 z)
        refine ⟨St3, fun j hj => by rw [c1 j (by omega), b1 j (by omega), a1 j hj], ?_⟩
        rw [show g + s = g + (s - 1) + 1 by omega, it3_s, e1]
        rw [show g + (s - 1 - x) + x = g + (s - 1) by omega] at b2
        rw [b2, c2, wr_cmb, es, show p + 1 + x + (s - 1 - x) = p + s by omega]
      · intro q l w S1 S2 g hq hl hS
        obtain ⟨hS1, hS2⟩ := hS c
        obtain ⟨T1, T2, e1, a1, a2, a3⟩ := m_mir_step (w := w) hn h0 (rk_it5 (fX10_mirrorsTree_L23 b of) (g + (s - 1))) v1 z2 hp hq hl hS1 hS2
        have hh := hi_le x l
        obtain ⟨U1, U2, b1, b2⟩ := B1 (q + 1) (hi x l) (upd w q (nI (s - 1 - x))) T1 T2 (g + x) (by omega) (by omega) a3
        obtain ⟨V1, V2, c1, c2⟩ := B2 (q + 1 + (s - 1 - x)) l (wr (q + 1) (s - 1 - x) u1 (upd w q (nI (s - 1 - x)))) U1 U2 g (by omega) (by omega) (fun z => by
          obtain ⟨y1, y2⟩ := b1 l (by rw [hi_1 z]; omega)
          obtain ⟨y3, y4⟩ := a2 z
          exact ⟨y1.trans y3, y2.trans y4⟩)
        refine ⟨V1, V2, fun j hj => ?_, ?_⟩
        · obtain ⟨y1, y2⟩ := c1 j hj
          obtain ⟨y3, y4⟩ := b1 j (by omega)
          obtain ⟨y5, y6⟩ := a1 j hj
          exact ⟨y1.trans (y3.trans y5), y2.trans (y4.trans y6)⟩
        · rw [show g + s = g + (s - 1) + 1 by omega, hi_1 c, it5_s, e1]
          rw [show g + x + (s - 1 - x) = g + (s - 1) by omega] at b2
          rw [b2, c2, wr_cmb', es, show q + 1 + (s - 1 - x) + x = q + s by omega]
      · intro u' q f' hf' hu
        cases f' with
        | zero => omega
        | succ f' =>
          intro _
          have hq : u' q = s - 1 - x := hu 0 c
          rw [hq, show s - 1 - (s - 1 - x) = x by omega]
          refine ⟨trivial, by omega, C1 u' (q + 1) f' (by omega) (fun k hk => ?_), C2 u' (q + 1 + (s - 1 - x)) f' (by omega) (fun k hk => ?_)⟩
          · rw [show q + 1 + k = q + (k + 1) by omega, hu (k + 1) (by omega)]
            unfold cmb
            rw [if_neg (by omega), if_pos (by omega), Nat.add_sub_cancel]
          · rw [show q + 1 + (s - 1 - x) + k = q + (k + (s - 1 - x) + 1) by omega, hu (k + (s - 1 - x) + 1) (by omega)]
            unfold cmb
            rw [if_neg (by omega), if_neg (by omega), Nat.add_sub_cancel, Nat.add_sub_cancel]
      · intro k hk
        unfold cmb
        by_cases q1 : k = 0
        · rw [if_pos q1]; omega
        · rw [if_neg q1]
          by_cases q2 : k - 1 < s - 1 - x
          · rw [if_pos q2]; exact D1 _ q2
          · rw [if_neg q2]; exact D2 _ (by omega)
    · exact triv p s (by omega)
theorem turn3 {n : Nat} (h1n : 1 ≤ n) (hn : n ≤ 30) {b Z St S1 S2 of : Nat → Int32} (hb : AccB n b) (h0 : of 0 = nI n) (a a' : Nat → Int32) : ∃ w w' Z' St' S1' S2', fX7_turn a (nI n) b Z St = some (w, Z', St') ∧ fX10_mirrorsTree a' S1 S2 b of = some (w', S1', S2') ∧ (∀ j, j < n → w j = w' j) ∧ AccB n w := by
  obtain ⟨k, Z', S', e1, -, e2⟩ := x_meas h1n hn b Z S1 of h0
  rcases e2 with ⟨-, e2⟩ | ⟨-, -, e2⟩
  · exact absurd hb e2
  have hv : ∀ i, i < n → (fun i => (b i).toNatClampNeg) i + 1 ≤ hd (ts n (fun i => (b i).toNatClampNeg) i) := fun i hi => (hb i hi).2
  have hb' : ∀ i, i < n → b i = nI ((fun i => (b i).toNatClampNeg) i) := fun i hi => (hb i hi).1
  obtain ⟨hg, -⟩ := gd_of (P := fun p s => Z' p = nI s) hv e2 n 0 n [] (Nat.le_refl n) (show [n] = prs n [] from (prs_1 (by omega)).symm) (by omega)
  obtain ⟨u, A, B, C, D⟩ := mir hn h0 hb' k n 0 n (Nat.le_refl n) hg (by omega)
  obtain ⟨g, hg⟩ : ∃ g, FU = g + 1 + n := ⟨FU - n - 1, by have := FU_eq; omega⟩
  obtain ⟨St1, a1, a2⟩ := A 0 a (upd St 0 (nI 0)) (g + 1) (by omega) (fun _ => by rw [upd_s])
  obtain ⟨T1, T2, b1, b2⟩ := B 0 0 a' (upd S1 0 (nI 0)) (upd S2 0 (nI n)) (g + 1) (by omega) (by omega) (fun _ => ⟨by rw [upd_s], by rw [upd_s]⟩)
  have hle : nI (0 + n) ≥ nI n := by show nI n ≤ nI (0 + n); rw [q_le (by omega) (by omega)]; omega
  have hw : ∀ j, j < n → (wr 0 n u a j).toNatClampNeg = u j := fun j hj => by
    have := D j hj
    rw [wr_in (by omega) (by omega), Nat.sub_zero, q_cl (by omega)]
  refine ⟨wr 0 n u a, wr 0 n u a', Z', St1, T1, T2, ?_, ?_, fun j hj => ?_, fun j hj => ?_⟩
  · unfold fX7_turn
    rw [e1, Option.bind_some, l0, q_set (by omega) (by omega), Option.bind_some, hg, a2, it3_s]
    unfold fX7_turn_L25
    rw [if_pos hle]
  · unfold fX10_mirrorsTree
    rw [h0, hg]
    refine Eq.trans (by rw [l0, l1, hi_1 (by omega)]) (b2.trans ?_)
    rw [it5_s]
    unfold fX10_mirrorsTree_L23
    rw [h0, if_pos hle]
  · rw [wr_in (by omega) (by omega), wr_in (by omega) (by omega)]
  · have h1 := C (fun i => (wr 0 n u a i).toNatClampNeg) 0 n (Nat.le_refl n) (fun k hk => by rw [Nat.zero_add]; exact hw k hk)
    have h2 := (acc_of n 0 n [] (Nat.le_refl n) h1 (show [n] = prs n [] from (prs_1 (by omega)).symm)).1 j (by omega) (by omega)
    refine ⟨?_, h2⟩
    rw [hw j hj, wr_in (by omega) (by omega), Nat.sub_zero]
