/-! ===== pure part 7: what is aside comes to the buffer ===== -/
def fl (a b : Nat → Int32) (i : Nat) : Nat → Int32 := fun j => if j < i then a j else b j
theorem fl_0 (a b : Nat → Int32) : fl a b 0 = b := by funext j; unfold fl; rw [if_neg (by omega)]
theorem fl_s (a b : Nat → Int32) (i : Nat) : upd (fl a b i) i (a i) = fl a b (i + 1) := by
  funext j
  unfold upd
  show (if j = i then a i else (if j < i then a j else b j)) = (if j < i + 1 then a j else b j)
  by_cases h : j = i
  · subst h; rw [if_pos rfl, if_pos (by omega)]
  · rw [if_neg h]
    by_cases h2 : j < i
    · rw [if_pos h2, if_pos (by omega)]
    · rw [if_neg h2, if_neg (by omega)]
theorem fl_at (a b : Nat → Int32) (i : Nat) : fl a b i i = b i := by unfold fl; rw [if_neg (by omega)]
theorem fl_in {a b : Nat → Int32} {i j : Nat} (h : j < i) : fl a b i j = a j := by unfold fl; rw [if_pos h]
theorem fl_out {a b : Nat → Int32} {i j : Nat} (h : i ≤ j) : fl a b i j = b j := by unfold fl; rw [if_neg (by omega)]
theorem fl_nc {a b : Nat → Int32} {i : Nat} (h : b i = a i) : fl a b (i + 1) = fl a b i := by
  rw [← fl_s]
  have e : a i = fl a b i i := by rw [fl_at, h]
  rw [e, upd_self]
theorem fl_cong {a a' b : Nat → Int32} {i : Nat} (h : ∀ j, j < i → a j = a' j) : fl a b i = fl a' b i := by
  funext j; unfold fl
  by_cases h2 : j < i
  · rw [if_pos h2, if_pos h2, h j h2]
  · rw [if_neg h2, if_neg h2]
/-- whether one of the first places is otherwise -/
def chg (a b : Nat → Int32) : Nat → Int32
  | 0 => 0
  | i + 1 => if b i = a i then chg a b i else 1
theorem chg_01 (a b : Nat → Int32) : ∀ i, chg a b i = 0 ∨ chg a b i = 1
  | 0 => Or.inl rfl
  | i + 1 => by
    show (if b i = a i then chg a b i else 1) = 0 ∨ (if b i = a i then chg a b i else 1) = 1
    by_cases h : b i = a i
    · rw [if_pos h]; exact chg_01 a b i
    · rw [if_neg h]; exact Or.inr rfl
theorem chg_cong {a a' b : Nat → Int32} : ∀ {i : Nat}, (∀ j, j < i → a j = a' j) → chg a b i = chg a' b i
  | 0, _ => rfl
  | i + 1, h => by
    show (if b i = a i then chg a b i else 1) = (if b i = a' i then chg a' b i else 1)
    rw [h i (by omega), chg_cong (fun j hj => h j (by omega))]
theorem and1_0 : (0 : Int32) &&& 1 = 0 := by decide
theorem and1_1 : (1 : Int32) &&& 1 = 1 := by decide
theorem q_take {w : Nat} (hw : w ≤ 60) {b d : Nat → Int32} {F : Fm} (hF : F.2.2.1 = nI w) : fX9_takeDraft b d F = some (chg d b w, fl d b w) := by
  unfold fX9_takeDraft
  obtain ⟨a', c', e', m, ⟨rfl, rfl, rfl⟩, h3⟩ := lpG3 (fX9_takeDraft_L4 d F) (fun i a c e => a = chg d b i ∧ c = nI i ∧ e = fl d b i) w (by
    rintro i a c e hi ⟨rfl, rfl, rfl⟩
    refine ⟨chg d b (i + 1), nI (i + 1), fl d b (i + 1), ⟨rfl, rfl, rfl⟩, fun g => ?_⟩
    unfold fX9_takeDraft_L4 fX9_takeDraft_B47
    rw [hF, if_neg (by rw [q_le (by omega) (by omega)]; omega), q_at (by omega) (by omega), Option.bind_some, q_at (by omega) (by omega), Option.bind_some, q_set (by omega) (by omega), Option.bind_some, fl_at, fl_s]
    have e1 : nI i + 1 = nI (i + 1) := by rw [l1, q_add]
    rw [e1]
    show _ = g (if b i = d i then chg d b i else 1) _ _
    by_cases h : b i = d i
    · rw [if_pos h, if_pos h, fl_nc h]
    · rw [if_neg h, if_neg h]) w 0 0 (nI 0) b FU (by omega) (FU_gt (by omega)) ⟨rfl, rfl, (fl_0 d b).symm⟩
  rw [show (0 : Int32) = nI 0 from rfl] at h3 ⊢
  rw [h3]
  unfold fX9_takeDraft_L4
  rw [hF, if_pos (by rw [q_le (by omega) (by omega)]; omega)]
  rcases chg_01 d b w with h | h <;> rw [h]
  · rw [if_pos and1_0]
  · rw [if_pos and1_1]
theorem q_stores {w : Nat} (hw : w ≤ 60) {b d of : Nat → Int32} {nw : Int32} (hF : fX10_longNow nw of = some (nI w)) : fX10_stores nw b d of = some (chg d b w, fl d b w) := by
  unfold fX10_stores
  obtain ⟨a', c', e', m, ⟨rfl, rfl, rfl⟩, h3⟩ := lpG3 (fX10_stores_L4 nw d of) (fun i a c e => a = chg d b i ∧ c = nI i ∧ e = fl d b i) w (by
    rintro i a c e hi ⟨rfl, rfl, rfl⟩
    refine ⟨chg d b (i + 1), nI (i + 1), fl d b (i + 1), ⟨rfl, rfl, rfl⟩, fun g => ?_⟩
    unfold fX10_stores_L4 fX10_stores_B31 fX10_stores_B36
    rw [hF, Option.bind_some, if_neg (by rw [q_le (by omega) (by omega)]; omega), q_cl (by omega)]
    have hgd : ¬(nI i < 0 ∨ 60 ≤ i) := by rw [l0, q_lt (by omega) (by omega)]; omega
    simp only [if_neg hgd, fl_at, fl_s]
    show _ = g (if b i = d i then chg d b i else 1) _ _
    have e1 : nI i + 1 = nI (i + 1) := by rw [l1, q_add]
    rw [e1]
    rcases chg_01 d b i with h | h <;> rw [h]
    · rw [if_neg (by simp)]
      by_cases h2 : b i = d i
      · rw [if_pos h2, if_pos h2]
      · rw [if_neg h2, if_neg h2]
    · rw [if_pos (by decide)]
      by_cases h2 : b i = d i
      · rw [if_pos h2]
      · rw [if_neg h2]) w 0 0 (nI 0) b FU (by omega) (FU_gt (by omega)) ⟨rfl, rfl, (fl_0 d b).symm⟩
  rw [show (0 : Int32) = nI 0 from rfl] at h3 ⊢
  rw [h3]
  unfold fX10_stores_L4
  rw [hF, Option.bind_some, if_pos (by rw [q_le (by omega) (by omega)]; omega)]
  rcases chg_01 d b w with h | h <;> rw [h]
  · rw [if_pos and1_0]
  · rw [if_pos and1_1]
