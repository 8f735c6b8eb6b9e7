/-! ===== pure part 34: a tree's word, a word's tree ===== -/
def cmw (x : Nat) (u1 u2 : Nat → Nat) : Nat → Nat := fun k => if k = 0 then 0 else if k - 1 < 2 * x then u1 (k - 1) else if k - 1 = 2 * x then 1 else u2 (k - 2 - 2 * x)
theorem wr_cmw {q x y : Nat} {u1 u2 : Nat → Nat} {w : Nat → Int32} : wr (q + 2 + 2 * x) (2 * y) u2 (wr (q + 1) (2 * x) u1 (upd (upd w q (nI 0)) (q + 1 + 2 * x) (nI 1))) = wr q (2 * (x + y + 1)) (cmw x u1 u2) w := by
  funext j
  rcases (by omega : j < q ∨ j = q ∨ (q + 1 ≤ j ∧ j < q + 1 + 2 * x) ∨ j = q + 1 + 2 * x ∨ (q + 2 + 2 * x ≤ j ∧ j < q + 2 + 2 * x + 2 * y) ∨ q + 2 + 2 * x + 2 * y ≤ j) with h | h | h | h | h | h
  · rw [wr_out (by omega), wr_out (by omega), upd_n (by omega), upd_n (by omega), wr_out (by omega)]
  · subst h; rw [wr_out (by omega), wr_out (by omega), upd_n (by omega), upd_s, wr_in (by omega) (by omega), Nat.sub_self]; rfl
  · rw [wr_out (by omega), wr_in h.1 h.2, wr_in (by omega) (by omega)]
    unfold cmw; rw [if_neg (by omega), if_pos (by omega), Nat.sub_sub]
  · subst h; rw [wr_out (by omega), wr_out (by omega), upd_s, wr_in (by omega) (by omega)]
    unfold cmw; rw [if_neg (by omega), if_neg (by omega), if_pos (by omega)]
  · rw [wr_in h.1 h.2, wr_in (by omega) (by omega)]
    unfold cmw; rw [if_neg (by omega), if_neg (by omega), if_neg (by omega), show j - q - 2 - 2 * x = j - (q + 2 + 2 * x) by omega]
  · rw [wr_out (by omega), wr_out (by omega), upd_n (by omega), upd_n (by omega), wr_out (by omega)]
theorem wr_upd {q s i : Nat} {u : Nat → Nat} {w : Nat → Int32} {z : Int32} (h : i < q ∨ q + s ≤ i) : upd (wr q s u w) i z = wr q s u (upd w i z) := by
  funext j
  by_cases e : j = i
  · subst e; rw [upd_s, wr_out h, upd_s]
  · rw [upd_n e]
    by_cases h2 : q ≤ j ∧ j < q + s
    · rw [wr_in h2.1 h2.2, wr_in h2.1 h2.2]
    · rw [wr_out (by omega), wr_out (by omega), upd_n e]
theorem upd_comm {i j : Nat} {w : Nat → Int32} {x y : Int32} (h : i ≠ j) : upd (upd w i x) j y = upd (upd w j y) i x := by
  funext k
  by_cases e : k = i
  · subst e; rw [upd_n h, upd_s, upd_s]
  · by_cases e2 : k = j
    · subst e2; rw [upd_s, upd_n e, upd_s]
    · rw [upd_n e2, upd_n e, upd_n e, upd_n e2]
theorem x_sp_step {n : Nat} (hn : n ≤ 20) {b Z : Nat → Int32} {k : Int32} {p s q x : Nat} {w St : Nat → Int32} (g : Int32 → (Nat → Int32) → (Nat → Int32) → Option ((Nat → Int32) × (Nat → Int32) × (Nat → Int32))) (hb : b p = nI x) (hz : Z p = nI s) (hx : x + 1 ≤ s) (hp : p + s ≤ n) (hq : q + 2 * s ≤ 60) (hSt : St p = nI q) : ∃ St', fX7_spell_L22 b (nI n) (k, Z) g (nI p) w St = g (nI (p + 1)) (upd (upd w q (nI 0)) (q + 1 + 2 * x) (nI 1)) St' ∧ (∀ j, p + s ≤ j → St' j = St j) ∧ (0 < x → St' (p + 1) = nI (q + 1)) ∧ (0 < s - 1 - x → St' (p + 1 + x) = nI (q + 2 + 2 * x)) := by
  have er : nI s - 1 - nI x = nI (s - 1 - x) := by rw [l1, q_sub (by omega), q_sub (by omega)]
  have ej : ∀ k : Nat, nI k + 1 = nI (k + 1) := fun k => by rw [l1, q_add]
  have e2 : q + 1 + 2 * x + 1 = q + 2 + 2 * x := by omega
  unfold fX7_spell_L22 fX7_spell_B108 fX7_spell_B131
  rw [if_neg (by rw [q_le (by omega) (by omega)]; omega), q_at (by omega) (by omega), Option.bind_some, q_at (by omega) (by omega), Option.bind_some, q_at (by omega) (by omega), Option.bind_some, hb, hSt, show (k, Z).2 = Z from rfl, hz, er, ej, ej, l2, q_mul, q_add, q_add, ej, q_set (by omega) (by omega), Option.bind_some, q_set (by omega) (by omega), Option.bind_some, e2]
  by_cases c : 0 < x
  · rw [if_neg (show ¬ nI x ≤ 0 by rw [l0, q_le (by omega) (by omega)]; omega), q_set (by omega) (by omega), Option.bind_some]
    by_cases c2 : 0 < s - 1 - x
    · rw [if_neg (show ¬ nI (s - 1 - x) ≤ 0 by rw [l0, q_le (by omega) (by omega)]; omega), q_set (by omega) (by omega), Option.bind_some]
      exact ⟨_, rfl, fun j hj => by rw [upd_n (by omega), upd_n (by omega)], fun _ => by rw [upd_n (by omega), upd_s], fun _ => by rw [upd_s]⟩
    · rw [if_pos (show nI (s - 1 - x) ≤ 0 by rw [l0, q_le (by omega) (by omega)]; omega)]
      exact ⟨_, rfl, fun j hj => by rw [upd_n (by omega)], fun _ => by rw [upd_s], fun z => absurd z c2⟩
  · rw [if_pos (show nI x ≤ 0 by rw [l0, q_le (by omega) (by omega)]; omega)]
    by_cases c2 : 0 < s - 1 - x
    · rw [if_neg (show ¬ nI (s - 1 - x) ≤ 0 by rw [l0, q_le (by omega) (by omega)]; omega), q_set (by omega) (by omega), Option.bind_some]
      exact ⟨_, rfl, fun j hj => by rw [upd_n (by omega)], fun z => absurd z c, fun _ => by rw [upd_s]⟩
    · rw [if_pos (show nI (s - 1 - x) ≤ 0 by rw [l0, q_le (by omega) (by omega)]; omega)]
      exact ⟨_, rfl, fun j hj => rfl, fun z => absurd z c, fun z => absurd z c2⟩
theorem m_tw_mark {b of : Nat → Int32} {q l : Nat} {w S1 S2 : Nat → Int32} (g : Int32 → Int32 → (Nat → Int32) → (Nat → Int32) → (Nat → Int32) → Option (Int32 × Int32 × (Nat → Int32) × (Nat → Int32) × (Nat → Int32) × (Nat → Int32) × (Nat → Int32))) (hq : q < 60) (hl : l < 63) (h2 : S2 l = nI 0) : fX10_toWord_L57 b of g (nI q) (nI (l + 1)) w S1 S2 = g (nI (q + 1)) (nI l) (upd w q (nI 1)) S1 S2 := by
  have ej : ∀ k : Nat, nI k + 1 = nI (k + 1) := fun k => by rw [l1, q_add]
  unfold fX10_toWord_L57 fX10_toWord_B95 fX10_toWord_B188
  rw [if_neg (show ¬ nI (l + 1) ≤ 0 by rw [l0, q_le (by omega) (by omega)]; omega), pred_nI, q_cl (a := l) (by omega), if_neg (show ¬ (nI l < 0 ∨ 64 ≤ l) by rw [l0, q_lt (by omega) (by omega)]; omega), h2, if_neg (show ¬ ¬ nI 0 = 0 by decide), q_cl (a := q) (by omega), if_neg (show ¬ (nI q < 0 ∨ 60 ≤ q) by rw [l0, q_lt (by omega) (by omega)]; omega), if_pos (show nI 0 ≤ 0 by decide), ej]
  rfl
theorem m_tw_step {n : Nat} (hn : n ≤ 20) {b of : Nat → Int32} {p s q x l : Nat} {w S1 S2 : Nat → Int32} (g : Int32 → Int32 → (Nat → Int32) → (Nat → Int32) → (Nat → Int32) → Option (Int32 × Int32 × (Nat → Int32) × (Nat → Int32) × (Nat → Int32) × (Nat → Int32) × (Nat → Int32))) (hb : b p = nI x) (hx : x + 1 ≤ s) (hp : p + s ≤ n) (hq : q + 2 * s ≤ 60) (hl : l + 2 * s ≤ 60) (h1 : S1 l = nI p) (h2 : S2 l = nI s) : ∃ S1' S2', fX10_toWord_L57 b of g (nI q) (nI (l + 1)) w S1 S2 = g (nI (q + 1)) (nI (hi x (hi (s - 1 - x) l + 1))) (upd w q (nI 0)) S1' S2' ∧ (∀ j, j < l → S1' j = S1 j ∧ S2' j = S2 j) ∧ (0 < s - 1 - x → S1' l = nI (p + 1 + x) ∧ S2' l = nI (s - 1 - x)) ∧ S2' (hi (s - 1 - x) l) = nI 0 ∧ (0 < x → S1' (hi (s - 1 - x) l + 1) = nI (p + 1) ∧ S2' (hi (s - 1 - x) l + 1) = nI x) := by
  have er : nI s - 1 - nI x = nI (s - 1 - x) := by rw [l1, q_sub (by omega), q_sub (by omega)]
  have ej : ∀ k : Nat, nI k + 1 = nI (k + 1) := fun k => by rw [l1, q_add]
  have gl : ∀ k, k < 64 → ¬ (nI k < 0 ∨ 64 ≤ k) := fun k hk => by rw [l0, q_lt (by omega) (by omega)]; omega
  have gp : ∀ k, k < 60 → ¬ (nI k < 0 ∨ 60 ≤ k) := fun k hk => by rw [l0, q_lt (by omega) (by omega)]; omega
  unfold fX10_toWord_L57 fX10_toWord_B95 fX10_toWord_B152 fX10_toWord_B188 hi
  rw [if_neg (show ¬ nI (l + 1) ≤ 0 by rw [l0, q_le (by omega) (by omega)]; omega), pred_nI, q_cl (a := l) (by omega), if_neg (gl l (by omega)), h1, h2, if_pos (show ¬ nI s = 0 by rw [l0, q_eq (by omega) (by omega)]; omega), q_cl (a := q) (by omega), if_neg (gp q (by omega)), if_neg (show ¬ nI s ≤ 0 by rw [l0, q_le (by omega) (by omega)]; omega), q_cl (a := p) (by omega), if_neg (gp p (by omega)), hb, er, ej q, ej l, ej p, ej (l + 1), q_add]
  by_cases c2 : 0 < s - 1 - x
  · rw [if_neg (show ¬ nI (s - 1 - x) ≤ 0 by rw [l0, q_le (by omega) (by omega)]; omega), if_pos c2, q_cl (a := l + 1) (by omega), if_neg (gl (l + 1) (by omega))]
    by_cases c : 0 < x
    · rw [if_neg (show ¬ nI x ≤ 0 by rw [l0, q_le (by omega) (by omega)]; omega), if_pos c, q_cl (a := l + 1 + 1) (by omega), if_neg (gl (l + 1 + 1) (by omega)), ej]
      refine ⟨_, _, rfl, fun j hj => ⟨?_, ?_⟩, fun _ => ⟨?_, ?_⟩, ?_, fun _ => ⟨?_, ?_⟩⟩
      · rw [upd_n (by omega), upd_n (by omega)]
      · rw [upd_n (by omega), upd_n (by omega), upd_n (by omega)]
      · rw [upd_n (by omega), upd_s]
      · rw [upd_n (by omega), upd_n (by omega), upd_s]
      · rw [upd_n (by omega), upd_s]; rfl
      · rw [upd_s]
      · rw [upd_s]
    · rw [if_pos (show nI x ≤ 0 by rw [l0, q_le (by omega) (by omega)]; omega), if_neg c]
      refine ⟨_, _, rfl, fun j hj => ⟨?_, ?_⟩, fun _ => ⟨?_, ?_⟩, ?_, fun z => absurd z c⟩
      · rw [upd_n (by omega)]
      · rw [upd_n (by omega), upd_n (by omega)]
      · rw [upd_s]
      · rw [upd_n (by omega), upd_s]
      · rw [upd_s]; rfl
  · rw [if_pos (show nI (s - 1 - x) ≤ 0 by rw [l0, q_le (by omega) (by omega)]; omega), if_neg c2, if_neg (gl l (by omega))]
    by_cases c : 0 < x
    · rw [if_neg (show ¬ nI x ≤ 0 by rw [l0, q_le (by omega) (by omega)]; omega), if_pos c, q_cl (a := l + 1) (by omega), if_neg (gl (l + 1) (by omega))]
      refine ⟨_, _, rfl, fun j hj => ⟨?_, ?_⟩, fun z => absurd z c2, ?_, fun _ => ⟨?_, ?_⟩⟩
      · rw [upd_n (by omega)]
      · rw [upd_n (by omega), upd_n (by omega)]
      · rw [upd_n (by omega), upd_s]; rfl
      · rw [upd_s]
      · rw [upd_s]
    · rw [if_pos (show nI x ≤ 0 by rw [l0, q_le (by omega) (by omega)]; omega), if_neg c]
      refine ⟨_, _, rfl, fun j hj => ⟨rfl, ?_⟩, fun z => absurd z c2, ?_, fun z => absurd z c⟩
      · rw [upd_n (by omega)]
      · rw [upd_s]; rfl
theorem spl {n : Nat} (hn : n ≤ 20) {b of Z : Nat → Int32} {v : Nat → Nat} (hb : ∀ i, i < n → b i = nI (v i)) (k : Int32) : ∀ f p s, s ≤ f → Gd (fun p s => Z p = nI s) v f p s → p + s ≤ n → ∃ u : Nat → Nat,
    (∀ q w St g, q + 2 * s ≤ 60 → (0 < s → St p = nI q) → ∃ St', (∀ j, p + s ≤ j → St' j = St j) ∧ rk_it3 (fX7_spell_L22 b (nI n) (k, Z)) (g + s) (nI p) w St = rk_it3 (fX7_spell_L22 b (nI n) (k, Z)) g (nI (p + s)) (wr q (2 * s) u w) St') ∧
    (∀ q l w S1 S2 g, q + 2 * s ≤ 60 → l + 2 * s ≤ 60 → (0 < s → S1 l = nI p ∧ S2 l = nI s) → ∃ S1' S2', (∀ j, j < l → S1' j = S1 j ∧ S2' j = S2 j) ∧ rk_it5 (fX10_toWord_L57 b of) (g + 2 * s) (nI q) (nI (hi s l)) w S1 S2 = rk_it5 (fX10_toWord_L57 b of) g (nI (q + 2 * s)) (nI l) (wr q (2 * s) u w) S1' S2') := by
  intro f
  have triv : ∀ p s, s = 0 → ∃ u : Nat → Nat,
    (∀ q w St g, q + 2 * s ≤ 60 → (0 < s → St p = nI q) → ∃ St', (∀ j, p + s ≤ j → St' j = St j) ∧ rk_it3 (fX7_spell_L22 b (nI n) (k, Z)) (g + s) (nI p) w St = rk_it3 (fX7_spell_L22 b (nI n) (k, Z)) g (nI (p + s)) (wr q (2 * s) u w) St') ∧
    (∀ q l w S1 S2 g, q + 2 * s ≤ 60 → l + 2 * s ≤ 60 → (0 < s → S1 l = nI p ∧ S2 l = nI s) → ∃ S1' S2', (∀ j, j < l → S1' j = S1 j ∧ S2' j = S2 j) ∧ rk_it5 (fX10_toWord_L57 b of) (g + 2 * s) (nI q) (nI (hi s l)) w S1 S2 = rk_it5 (fX10_toWord_L57 b of) g (nI (q + 2 * s)) (nI l) (wr q (2 * s) u w) S1' S2') := by
    rintro p s rfl
    exact ⟨fun _ => 0, fun q w St g _ _ => ⟨St, fun j _ => rfl, by rw [wr_0]; rfl⟩, fun q l w S1 S2 g _ _ _ => ⟨S1, S2, fun j _ => ⟨rfl, rfl⟩, by rw [wr_0]; rfl⟩⟩
  induction f with
  | zero => intro p s hs hg hp; exact triv p s (by omega)
  | succ f ih =>
    intro p s hs hg hp
    by_cases c : 0 < s
    · obtain ⟨z1, z2, z3, z4⟩ := hg c
      have v1 := hb p (by omega)
      generalize v p = x at *
      obtain ⟨u1, A1, B1⟩ := ih (p + 1) x (by omega) z3 (by omega)
      obtain ⟨u2, A2, B2⟩ := ih (p + 1 + x) (s - 1 - x) (by omega) z4 (by omega)
      have es : x + (s - 1 - x) + 1 = s := by omega
      refine ⟨cmw x u1 u2, ?_, ?_⟩
      · intro q w St g hq hSt
        obtain ⟨St1, e1, a1, a2, a3⟩ := x_sp_step (k := k) (w := w) hn (rk_it3 (fX7_spell_L22 b (nI n) (k, Z)) (g + (s - 1))) v1 z1 z2 hp hq (hSt c)
        obtain ⟨St2, b1, b2⟩ := A1 (q + 1) (upd (upd w q (nI 0)) (q + 1 + 2 * x) (nI 1)) St1 (g + (s - 1 - x)) (by omega) a2
        obtain ⟨St3, c1, c2⟩ := A2 (q + 2 + 2 * x) (wr (q + 1) (2 * x) u1 (upd (upd w q (nI 0)) (q + 1 + 2 * x) (nI 1))) St2 g (by omega) (fun z => by rw [b1 _ (by omega)]; exact a3 z)
        refine ⟨St3, fun j hj => by rw [c1 j (by omega), b1 j (by omega), a1 j hj], ?_⟩
        rw [show g + s = g + (s - 1) + 1 by omega, it3_s, e1]
        rw [show g + (s - 1 - x) + x = g + (s - 1) by omega] at b2
        rw [b2, c2, wr_cmw, es, show p + 1 + x + (s - 1 - x) = p + s by omega]
      · intro q l w S1 S2 g hq hl hS
        obtain ⟨hS1, hS2⟩ := hS c
        obtain ⟨T1, T2, e1, a1, a2, a3, a4⟩ := m_tw_step (of := of) (w := w) hn (rk_it5 (fX10_toWord_L57 b of) (g + (2 * s - 1))) v1 z2 hp hq hl hS1 hS2
        have hh := hi_le (s - 1 - x) l
        obtain ⟨U1, U2, b1, b2⟩ := B1 (q + 1) (hi (s - 1 - x) l + 1) (upd w q (nI 0)) T1 T2 (g + 2 * (s - 1 - x) + 1) (by omega) (by omega) a4
        have b3 := m_tw_mark (b := b) (of := of) (S1 := U1) (q := q + 1 + 2 * x) (w := wr (q + 1) (2 * x) u1 (upd w q (nI 0))) (rk_it5 (fX10_toWord_L57 b of) (g + 2 * (s - 1 - x))) (by omega) (show hi (s - 1 - x) l < 63 by omega) ((b1 _ (by omega)).2.trans a3)
        obtain ⟨V1, V2, c1, c2⟩ := B2 (q + 2 + 2 * x) l (upd (wr (q + 1) (2 * x) u1 (upd w q (nI 0))) (q + 1 + 2 * x) (nI 1)) U1 U2 g (by omega) (by omega) (fun z => by
          obtain ⟨y1, y2⟩ := b1 l (by rw [hi_1 z]; omega)
          obtain ⟨y3, y4⟩ := a2 z
          exact ⟨y1.trans y3, y2.trans y4⟩)
        refine ⟨V1, V2, fun j hj => ?_, ?_⟩
        · obtain ⟨y1, y2⟩ := c1 j hj
          obtain ⟨y3, y4⟩ := b1 j (by omega)
          obtain ⟨y5, y6⟩ := a1 j hj
          exact ⟨y1.trans (y3.trans y5), y2.trans (y4.trans y6)⟩
        · rw [show g + 2 * s = g + (2 * s - 1) + 1 by omega, hi_1 c, it5_s, e1]
          rw [show g + 2 * (s - 1 - x) + 1 + 2 * x = g + (2 * s - 1) by omega, it5_s, b3] at b2
          rw [show q + 1 + 2 * x + 1 = q + 2 + 2 * x by omega, c2, wr_upd (by omega), wr_cmw, es, show q + 2 + 2 * x + 2 * (s - 1 - x) = q + 2 * s by omega] at b2
          exact b2
    · exact triv p s (by omega)
