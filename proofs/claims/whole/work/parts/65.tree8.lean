/-! ===== pure part 35: toWord, toTree ===== -/
theorem word3 {n : Nat} (h1n : 1 ≤ n) (hn : n ≤ 20) {b Z St S1 S2 of : Nat → Int32} (hb : AccB n b) (h0 : of 0 = nI n) (a a' : Nat → Int32) : ∃ w w' Z' St' S1' S2', fX7_spell a b Z St (nI n) = some (w, Z', St') ∧ rk_it5 (fX10_toWord_L57 b of) FU 0 1 a' (upd S1 0 0) (upd S2 0 (of 0)) = ((fX10_turnsTo of (2 : Int32) (of 0) (1 : Int32) (0 : Int32) (0 : Int32)).bind fun r_197 => ((fX10_stores r_197.1 b w' r_197.2).bind fun r_201 => (some ((of 0), r_197.1, r_201.2, w', r_197.2, S1', S2')))) ∧ ∀ j, j < 2 * n → w j = w' j := by
  obtain ⟨k, Z', S', e1, -, e2⟩ := x_meas h1n (by omega) b Z S1 of h0
  rcases e2 with ⟨-, e2⟩ | ⟨-, -, e2⟩
  · exact absurd hb e2
  have hv : ∀ i, i < n → (fun i => (b i).toNatClampNeg) i + 1 ≤ hd (ts n (fun i => (b i).toNatClampNeg) i) := fun i hi => (hb i hi).2
  have hb' : ∀ i, i < n → b i = nI ((fun i => (b i).toNatClampNeg) i) := fun i hi => (hb i hi).1
  obtain ⟨hg, -⟩ := gd_of (P := fun p s => Z' p = nI s) hv e2 n 0 n [] (Nat.le_refl n) (show [n] = prs n [] from (prs_1 (by omega)).symm) (by omega)
  obtain ⟨u, A, B⟩ := spl (of := of) hn hb' k n 0 n (Nat.le_refl n) hg (by omega)
  obtain ⟨g, hg⟩ : ∃ g, FU = g + 1 + n := ⟨FU - n - 1, by have := FU_eq; omega⟩
  obtain ⟨g2, hg2⟩ : ∃ g, FU = g + 1 + 2 * n := ⟨FU - 2 * n - 1, by have := FU_eq; omega⟩
  obtain ⟨St1, a1, a2⟩ := A 0 a (upd St 0 (nI 0)) (g + 1) (by omega) (fun _ => by rw [upd_s])
  obtain ⟨T1, T2, b1, b2⟩ := B 0 0 a' (upd S1 0 (nI 0)) (upd S2 0 (nI n)) (g2 + 1) (by omega) (by omega) (fun _ => ⟨by rw [upd_s], by rw [upd_s]⟩)
  refine ⟨wr 0 (2 * n) u a, wr 0 (2 * n) u a', Z', St1, T1, T2, ?_, ?_, fun j hj => ?_⟩
  · unfold fX7_spell
    rw [e1, Option.bind_some, l0, q_set (by omega) (by omega), Option.bind_some, hg, a2, it3_s]
    unfold fX7_spell_L22
    rw [if_pos (by rw [q_le (by omega) (by omega)]; omega)]
  · rw [h0, hg2]
    refine Eq.trans (by rw [l0, l1, hi_1 (by omega)]) (b2.trans ?_)
    rw [it5_s]
    unfold fX10_toWord_L57
    rw [if_pos (show nI 0 ≤ 0 by decide), h0]
  · rw [wr_in (by omega) (by omega), wr_in (by omega) (by omega)]
/-- a segment of so many pairs -/
def Wg (v : Nat → Nat) : Nat → Nat → Nat → Prop
  | 0, _, s => s = 0
  | f + 1, q, s => 0 < s → ∃ x, x + 1 ≤ s ∧ v q = 0 ∧ Wg v f (q + 1) x ∧ v (q + 1 + 2 * x) = 1 ∧ Wg v f (q + 2 + 2 * x) (s - 1 - x)
theorem parse {v : Nat → Nat} {m : Nat} (h : ∀ i, i < m → v i < 2 ∧ okb (sq v i) (v i) = true) (hm : (sq v m).length = 0) : ∀ f q, q ≤ m → m - q ≤ f → ∃ s, Wg v f q s ∧ q + 2 * s ≤ m ∧ (sq v (q + 2 * s)).length = (sq v q).length ∧ (q + 2 * s = m ∨ q + 2 * s < m ∧ v (q + 2 * s) = 1) := by
  intro f
  induction f with
  | zero => intro q h1 h2; exact ⟨0, rfl, by omega, rfl, Or.inl (by omega)⟩
  | succ f ih =>
    intro q h1 h2
    by_cases c : q = m
    · exact ⟨0, fun z => absurd z (by omega), by omega, rfl, Or.inl (by omega)⟩
    · obtain ⟨h3, h4⟩ := h q (by omega)
      by_cases c1 : v q = 1
      · exact ⟨0, fun z => absurd z (by omega), by omega, rfl, Or.inr ⟨by omega, c1⟩⟩
      · have c0 : v q = 0 := by omega
        have d1 : (sq v (q + 1)).length = (sq v q).length + 1 := by rw [sq_s, c0, nx_even (by omega)]; rfl
        obtain ⟨x, a1, a2, a3, a4⟩ := ih (q + 1) (by omega) (by omega)
        rcases a4 with a4 | ⟨a4, a5⟩
        · rw [a4, hm] at a3; omega
        · have d2 : (sq v (q + 2 + 2 * x)).length = (sq v q).length := by
            rw [show q + 2 + 2 * x = q + 1 + 2 * x + 1 by omega, sq_s, a5, nx_odd (by omega), List.length_tail, a3, d1, Nat.add_sub_cancel]
          obtain ⟨y, b1, b2, b3, b4⟩ := ih (q + 2 + 2 * x) (by omega) (by omega)
          refine ⟨x + 1 + y, fun _ => ⟨x, by omega, c0, a1, a5, ?_⟩, by omega, ?_, ?_⟩
          · rw [show x + 1 + y - 1 - x = y by omega]; exact b1
          · rw [show q + 2 * (x + 1 + y) = q + 2 + 2 * x + 2 * y by omega, b3, d2]
          · rw [show q + 2 * (x + 1 + y) = q + 2 + 2 * x + 2 * y by omega]; exact b4
theorem m_clo {b : Nat → Int32} {m : Nat} (hm : m ≤ 60) {v : Nat → Nat} (hb : ∀ i, i < m → b i = nI (v i)) : ∀ f q s, Wg v f (q + 1) s → q + 1 + 2 * s ≤ m → ∀ e g, 0 < e → e + s ≤ 100 → rk_it2 (fX10_closeOf_L4 b) (g + 2 * s) (nI e) (nI q) = rk_it2 (fX10_closeOf_L4 b) g (nI e) (nI (q + 2 * s)) := by
  intro f
  induction f with
  | zero => intro q s h hq e g he hs; obtain rfl : s = 0 := h; rfl
  | succ f ih =>
    intro q s h hq e g he hs
    by_cases c : 0 < s
    · obtain ⟨x, h1, h2, h3, h4, h5⟩ := h c
      have ej : ∀ k : Nat, nI k + 1 = nI (k + 1) := fun k => by rw [l1, q_add]
      have v1 := hb (q + 1) (by omega)
      have v2 := hb (q + 2 + 2 * x) (by omega)
      rw [show q + 1 + 1 + 2 * x = q + 2 + 2 * x by omega] at h4
      rw [show q + 1 + 2 + 2 * x = q + 2 + 2 * x + 1 by omega] at h5
      rw [h2] at v1
      rw [h4] at v2
      have r1 := ih (q + 1) x h3 (by omega) (e + 1) (g + 2 * (s - 1 - x) + 1) (by omega) (by omega)
      have r2 := ih (q + 2 + 2 * x) (s - 1 - x) h5 (by omega) e g he (by omega)
      have s1 : rk_it2 (fX10_closeOf_L4 b) (g + 2 * s) (nI e) (nI q) = rk_it2 (fX10_closeOf_L4 b) (g + (2 * s - 1)) (nI (e + 1)) (nI (q + 1)) := by
        rw [show g + 2 * s = g + (2 * s - 1) + 1 by omega, it2_s]
        unfold fX10_closeOf_L4 fX10_closeOf_B26
        rw [if_neg (show ¬ nI e ≤ 0 by rw [l0, q_le (by omega) (by omega)]; omega), ej, q_cl (a := q + 1) (by omega), if_neg (show ¬ (nI (q + 1) < 0 ∨ 60 ≤ q + 1) by rw [l0, q_lt (by omega) (by omega)]; omega), v1, if_neg (show ¬ ¬ nI 0 = 0 by decide), ej]
      have s2 : rk_it2 (fX10_closeOf_L4 b) (g + 2 * (s - 1 - x) + 1) (nI (e + 1)) (nI (q + 1 + 2 * x)) = rk_it2 (fX10_closeOf_L4 b) (g + 2 * (s - 1 - x)) (nI e) (nI (q + 2 + 2 * x)) := by
        rw [it2_s]
        unfold fX10_closeOf_L4 fX10_closeOf_B26
        rw [if_neg (show ¬ nI (e + 1) ≤ 0 by rw [l0, q_le (by omega) (by omega)]; omega), ej, show q + 1 + 2 * x + 1 = q + 2 + 2 * x by omega, q_cl (a := q + 2 + 2 * x) (by omega), if_neg (show ¬ (nI (q + 2 + 2 * x) < 0 ∨ 60 ≤ q + 2 + 2 * x) by rw [l0, q_lt (by omega) (by omega)]; omega), v2, if_pos (show ¬ nI 1 = 0 by decide), pred_nI]
      rw [s1, show g + (2 * s - 1) = g + 2 * (s - 1 - x) + 1 + 2 * x by omega, r1, s2, r2, show q + 2 + 2 * x + 2 * (s - 1 - x) = q + 2 * s by omega]
    · obtain rfl : s = 0 := by omega
      rfl
theorem tre {p : Nat} (hp : p ≤ 20) {b of : Nat → Int32} (h0 : of 0 = nI p) {v : Nat → Nat} (hb : ∀ i, i < 2 * p → b i = nI (v i)) (r22 : Int32 × (Nat → Int32)) : ∀ f q s, Wg v f q s → q + 2 * s ≤ 2 * p → ∃ u : Nat → Nat,
    (∀ m e w St g, m + s ≤ 60 → e + s ≤ 60 → ∃ St', (∀ j, j < e → St' j = St j) ∧ rk_it5 (fX8_grow_L9 b (nI p)) (g + 2 * s) (nI m) (nI e) (nI q) w St = rk_it5 (fX8_grow_L9 b (nI p)) g (nI (m + s)) (nI e) (nI (q + 2 * s)) (wr m s u w) St') ∧
    (∀ m w g, m + s ≤ 60 → rk_it3 (fX10_toTree_L35 b of r22) (g + 2 * s) (nI m) (nI q) w = rk_it3 (fX10_toTree_L35 b of r22) g (nI (m + s)) (nI (q + 2 * s)) (wr m s u w)) := by
  intro f
  have triv : ∀ q s, s = 0 → ∃ u : Nat → Nat,
    (∀ m e w St g, m + s ≤ 60 → e + s ≤ 60 → ∃ St', (∀ j, j < e → St' j = St j) ∧ rk_it5 (fX8_grow_L9 b (nI p)) (g + 2 * s) (nI m) (nI e) (nI q) w St = rk_it5 (fX8_grow_L9 b (nI p)) g (nI (m + s)) (nI e) (nI (q + 2 * s)) (wr m s u w) St') ∧
    (∀ m w g, m + s ≤ 60 → rk_it3 (fX10_toTree_L35 b of r22) (g + 2 * s) (nI m) (nI q) w = rk_it3 (fX10_toTree_L35 b of r22) g (nI (m + s)) (nI (q + 2 * s)) (wr m s u w)) := by
    rintro q s rfl
    exact ⟨fun _ => 0, fun m e w St g _ _ => ⟨St, fun j _ => rfl, by rw [wr_0]; rfl⟩, fun m w g _ => by rw [wr_0]; rfl⟩
  induction f with
  | zero => intro q s h hq; exact triv q s h
  | succ f ih =>
    intro q s h hq
    by_cases c : 0 < s
    · obtain ⟨x, h1, h2, h3, h4, h5⟩ := h c
      obtain ⟨u1, A1, B1⟩ := ih (q + 1) x h3 (by omega)
      obtain ⟨u2, A2, B2⟩ := ih (q + 2 + 2 * x) (s - 1 - x) h5 (by omega)
      have ej : ∀ k : Nat, nI k + 1 = nI (k + 1) := fun k => by rw [l1, q_add]
      have v1 := hb q (by omega)
      have v2 := hb (q + 1 + 2 * x) (by omega)
      rw [h2] at v1
      rw [h4] at v2
      have es : x + (s - 1 - x) + 1 = s := by omega
      have eqq : q + 2 + 2 * x + 2 * (s - 1 - x) = q + 2 * s := by omega
      refine ⟨cmb x x u1 u2, ?_, ?_⟩
      · intro m e w St g hm he
        obtain ⟨St1, a1, a2⟩ := A1 (m + 1) (e + 1) w (upd St e (nI m)) (g + 2 * (s - 1 - x) + 1) (by omega) (by omega)
        obtain ⟨St2, b1, b2⟩ := A2 (m + 1 + x) e (upd (wr (m + 1) x u1 w) m (nI x)) St1 g (by omega) (by omega)
        have k1 : (if 0 % 2 = 0 then (1 : Int32) else 0) = 1 := rfl
        have k2 : (if 1 % 2 = 0 then (1 : Int32) else 0) = 0 := rfl
        have s1 : rk_it5 (fX8_grow_L9 b (nI p)) (g + 2 * s) (nI m) (nI e) (nI q) w St = rk_it5 (fX8_grow_L9 b (nI p)) (g + 2 * (s - 1 - x) + 1 + 2 * x) (nI (m + 1)) (nI (e + 1)) (nI (q + 1)) w (upd St e (nI m)) := by
          rw [show g + 2 * s = g + 2 * (s - 1 - x) + 1 + 2 * x + 1 by omega, it5_s]
          unfold fX8_grow_L9 fX8_grow_B76
          rw [l2, q_mul, if_neg (by rw [q_le (by omega) (by omega)]; omega), q_at (by omega) (by omega), Option.bind_some, v1, x_isop (by omega), Option.bind_some, k1, if_neg (show ¬ (1 : Int32) = 0 by decide), q_set (by omega) (by omega), Option.bind_some, ej, ej, ej]
        have s2 : rk_it5 (fX8_grow_L9 b (nI p)) (g + 2 * (s - 1 - x) + 1) (nI (m + 1 + x)) (nI (e + 1)) (nI (q + 1 + 2 * x)) (wr (m + 1) x u1 w) St1 = rk_it5 (fX8_grow_L9 b (nI p)) (g + 2 * (s - 1 - x)) (nI (m + 1 + x)) (nI e) (nI (q + 2 + 2 * x)) (upd (wr (m + 1) x u1 w) m (nI x)) St1 := by
          rw [it5_s]
          unfold fX8_grow_L9 fX8_grow_B76
          rw [l2, q_mul, if_neg (by rw [q_le (by omega) (by omega)]; omega), q_at (by omega) (by omega), Option.bind_some, v2, x_isop (by omega), Option.bind_some, k2, if_pos rfl, pred_nI, q_at (by omega) (by omega), Option.bind_some, a1 e (by omega), upd_s, show nI (m + 1 + x) - 1 - nI m = nI x by rw [l1, q_sub (by omega), q_sub (by omega), show m + 1 + x - 1 - m = x by omega], q_set (by omega) (by omega), Option.bind_some, ej, show q + 1 + 2 * x + 1 = q + 2 + 2 * x by omega]
        refine ⟨St2, fun j hj => by rw [b1 j hj, a1 j (by omega), upd_n (by omega)], ?_⟩
        rw [s1, a2, s2, b2, wr_upd (by omega), wr_cmb', es, eqq, show m + 1 + x + (s - 1 - x) = m + s by omega]
      · intro m w g hm
        have cl : fX10_closeOf b (nI q) = some (nI (q + 1 + 2 * x)) := by
          obtain ⟨g, hg⟩ : ∃ g, FU = g + 1 + 1 + 2 * x := ⟨FU - 2 * x - 2, by have := FU_eq; omega⟩
          unfold fX10_closeOf
          rw [l1, hg, m_clo (m := 2 * p) (by omega) hb f q x h3 (by omega) 1 (g + 1 + 1) (by omega) (by omega), it2_s]
          unfold fX10_closeOf_L4 fX10_closeOf_B26
          rw [if_neg (show ¬ nI 1 ≤ 0 by decide), ej, show q + 2 * x + 1 = q + 1 + 2 * x by omega, q_cl (a := q + 1 + 2 * x) (by omega), if_neg (show ¬ (nI (q + 1 + 2 * x) < 0 ∨ 60 ≤ q + 1 + 2 * x) by rw [l0, q_lt (by omega) (by omega)]; omega), v2, if_pos (show ¬ nI 1 = 0 by decide), show nI 1 + (-1) = nI 0 by decide, it2_s]
          rw [if_pos (show nI 0 ≤ 0 by decide)]
        have r1 := B1 (m + 1) (upd w m (nI x)) (g + 2 * (s - 1 - x) + 1) (by omega)
        have r2 := B2 (m + 1 + x) (wr (m + 1) x u1 (upd w m (nI x))) g (by omega)
        have s1 : rk_it3 (fX10_toTree_L35 b of r22) (g + 2 * s) (nI m) (nI q) w = rk_it3 (fX10_toTree_L35 b of r22) (g + 2 * (s - 1 - x) + 1 + 2 * x) (nI (m + 1)) (nI (q + 1)) (upd w m (nI x)) := by
          rw [show g + 2 * s = g + 2 * (s - 1 - x) + 1 + 2 * x + 1 by omega, it3_s]
          unfold fX10_toTree_L35 fX10_toTree_B76
          rw [h0, l2, q_mul, if_neg (by rw [q_le (by omega) (by omega)]; omega), q_cl (a := q) (by omega), if_neg (show ¬ (nI q < 0 ∨ 60 ≤ q) by rw [l0, q_lt (by omega) (by omega)]; omega), v1, if_neg (show ¬ ¬ nI 0 = 0 by decide), cl, Option.bind_some, q_cl (a := m) (by omega), if_neg (show ¬ (nI m < 0 ∨ 60 ≤ m) by rw [l0, q_lt (by omega) (by omega)]; omega), ej, ej, show nI (q + 1 + 2 * x) - nI q - 1 = nI (2 * x) by rw [l1, q_sub (by omega), q_sub (by omega), show q + 1 + 2 * x - q - 1 = 2 * x by omega], q_div (by omega) (by omega) (by omega), show 2 * x / 2 = x by omega]
        have s2 : rk_it3 (fX10_toTree_L35 b of r22) (g + 2 * (s - 1 - x) + 1) (nI (m + 1 + x)) (nI (q + 1 + 2 * x)) (wr (m + 1) x u1 (upd w m (nI x))) = rk_it3 (fX10_toTree_L35 b of r22) (g + 2 * (s - 1 - x)) (nI (m + 1 + x)) (nI (q + 2 + 2 * x)) (wr (m + 1) x u1 (upd w m (nI x))) := by
          rw [it3_s]
          unfold fX10_toTree_L35 fX10_toTree_B76
          rw [h0, l2, q_mul, if_neg (by rw [q_le (by omega) (by omega)]; omega), q_cl (a := q + 1 + 2 * x) (by omega), if_neg (show ¬ (nI (q + 1 + 2 * x) < 0 ∨ 60 ≤ q + 1 + 2 * x) by rw [l0, q_lt (by omega) (by omega)]; omega), v2, if_pos (show ¬ nI 1 = 0 by decide), ej, show q + 1 + 2 * x + 1 = q + 2 + 2 * x by omega]
        rw [s1, r1, s2, r2, wr_cmb', es, eqq, show m + 1 + x + (s - 1 - x) = m + s by omega]
    · exact triv q s (by omega)
theorem tree2 {p : Nat} (hp : p ≤ 20) {b St of : Nat → Int32} (hb : AccW 1 p b) (h0 : of 0 = nI p) (r22 : Int32 × (Nat → Int32)) (a a' : Nat → Int32) : ∃ w w' St', fX8_grow a b St (nI p) = some (w, St') ∧ rk_it3 (fX10_toTree_L35 b of r22) FU 0 0 a' = ((fX10_turnsTo of (3 : Int32) (nI p) (0 : Int32) (0 : Int32) (0 : Int32)).bind fun r_88 => ((fX10_stores r_88.1 b w' r_88.2).bind fun r_92 => (some (nI p, r_88.1, r_92.2, w', r_88.2, r22.2)))) ∧ ∀ j, j < p → w j = w' j := by
  have hv : ∀ i, i < 2 * p → (fun i => (b i).toNatClampNeg) i < 2 ∧ okb (sq (fun i => (b i).toNatClampNeg) i) ((fun i => (b i).toNatClampNeg) i) = true := fun i hi => ⟨(hb.1 i hi).2.1, (hb.1 i hi).2.2⟩
  have hb' : ∀ i, i < 2 * p → b i = nI ((fun i => (b i).toNatClampNeg) i) := fun i hi => (hb.1 i hi).1
  obtain ⟨s, c1, c2, c3, c4⟩ := parse hv hb.2 (2 * p) 0 (by omega) (by omega)
  have hs : s = p := by
    rcases c4 with c4 | ⟨c4, c5⟩
    · omega
    · have h2 : okb (sq (fun i => (b i).toNatClampNeg) (0 + 2 * s)) (b (0 + 2 * s)).toNatClampNeg = true := (hv (0 + 2 * s) c4).2
      rw [c5] at h2
      have h3 : sq (fun i => (b i).toNatClampNeg) (0 + 2 * s) = [] := List.eq_nil_of_length_eq_zero c3
      rw [h3, okb_nil (by omega)] at h2
      cases h2
  subst hs
  obtain ⟨u, A, B⟩ := tre hp h0 hb' r22 (2 * s) 0 s c1 c2
  obtain ⟨g, hg⟩ : ∃ g, FU = g + 1 + 2 * s := ⟨FU - 2 * s - 1, by have := FU_eq; omega⟩
  obtain ⟨St1, a1, a2⟩ := A 0 0 a St (g + 1) (by omega) (by omega)
  have b2 := B 0 a' (g + 1) (by omega)
  refine ⟨wr 0 s u a, wr 0 s u a', St1, ?_, ?_, fun j hj => ?_⟩
  · unfold fX8_grow
    rw [hg, l0, a2, it5_s]
    unfold fX8_grow_L9
    rw [l2, q_mul, if_pos (by rw [q_le (by omega) (by omega)]; omega)]
  · rw [hg]
    refine Eq.trans (by rw [l0]) (b2.trans ?_)
    rw [it3_s]
    unfold fX10_toTree_L35
    rw [h0, l2, q_mul, if_pos (by rw [q_le (by omega) (by omega)]; omega), Nat.zero_add]
  · rw [wr_in (by omega) (by omega), wr_in (by omega) (by omega)]
