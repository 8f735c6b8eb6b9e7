/-! ===== pure part 28: trees, what waits to be read ===== -/
def prs (s : Nat) (l : List Nat) : List Nat := if 0 < s then s :: l else l
def XS (Z : Nat → Int32) : Nat → List Nat → Prop
  | _, [] => True
  | i, s :: r => Z i = nI s ∧ XS Z (i + s) r
def TS (S : Nat → Int32) : List Nat → Prop
  | [] => True
  | s :: r => S r.length = nI s ∧ TS S r
theorem XS_upd {Z : Nat → Int32} {x : Int32} : ∀ {ss : List Nat} {i j : Nat}, XS Z i ss → j < i → XS (upd Z j x) i ss
  | [], _, _, _, _ => trivial
  | s :: r, i, j, h, hj => ⟨by rw [upd_n (by omega)]; exact h.1, XS_upd h.2 (by omega)⟩
theorem TS_upd {S : Nat → Int32} {x : Int32} : ∀ {ss : List Nat} {k : Nat}, TS S ss → ss.length ≤ k → TS (upd S k x) ss
  | [], _, _, _ => trivial
  | s :: r, k, h, hk => by
    rw [List.length_cons] at hk
    exact ⟨by rw [upd_n (by omega)]; exact h.1, TS_upd h.2 (by omega)⟩
theorem XS_put {Z : Nat → Int32} {ss : List Nat} {i s : Nat} (h : XS Z (i + s) ss) (hs : 0 < s) : XS (upd Z i (nI s)) i (s :: ss) :=
  ⟨by rw [upd_s], XS_upd h (by omega)⟩
theorem TS_put {S : Nat → Int32} {ss : List Nat} {s : Nat} (h : TS S ss) : TS (upd S ss.length (nI s)) (s :: ss) :=
  ⟨by rw [upd_s], TS_upd h (Nat.le_refl _)⟩
theorem x_split {Z : Nat → Int32} {i s v : Nat} {r : List Nat} (hZ : Z i = nI s) (hv : v + 1 ≤ s) (hi : i + s ≤ 60) (h : XS Z (i + s) r) : ∃ Z', fX7_splitSize Z (nI i) (nI v) = some Z' ∧ XS Z' (i + 1) (prs v (prs (s - 1 - v) r)) ∧ ∀ j, j ≤ i → Z' j = Z j := by
  have er : nI s - 1 - nI v = nI (s - 1 - v) := by rw [l1, q_sub (by omega), q_sub (by omega)]
  have ei : nI i + 1 = nI (i + 1) := by rw [l1, q_add]
  have ej : nI (i + 1) + nI v = nI (i + 1 + v) := q_add _ _
  unfold fX7_splitSize fX7_splitSize_B22 prs
  rw [q_at (by omega) (by omega), Option.bind_some, hZ, er, ei, ej]
  by_cases c : 0 < v
  · have n1 : ¬ nI v ≤ 0 := by rw [l0, q_le (by omega) (by omega)]; omega
    rw [if_neg n1, q_set (by omega) (by omega), Option.bind_some, if_pos c]
    by_cases c2 : 0 < s - 1 - v
    · rw [if_neg (show ¬ nI (s - 1 - v) ≤ 0 by rw [l0, q_le (by omega) (by omega)]; omega), q_set (by omega) (by omega), Option.bind_some, if_pos c2]
      refine ⟨_, rfl, ⟨?_, ?_⟩, fun j hj => by rw [upd_n (by omega), upd_n (by omega)]⟩
      · rw [upd_n (by omega), upd_s]
      · refine XS_put (XS_upd ?_ (by omega)) c2
        rw [show i + 1 + v + (s - 1 - v) = i + s by omega]; exact h
    · rw [if_pos (show nI (s - 1 - v) ≤ 0 by rw [l0, q_le (by omega) (by omega)]; omega), if_neg c2]
      refine ⟨_, rfl, XS_put ?_ c, fun j hj => by rw [upd_n (by omega)]⟩
      rw [show i + 1 + v = i + s by omega]; exact h
  · obtain rfl : v = 0 := by omega
    rw [if_pos (show nI 0 ≤ 0 by decide), if_neg c]
    by_cases c2 : 0 < s - 1 - 0
    · rw [if_neg (show ¬ nI (s - 1 - 0) ≤ 0 by rw [l0, q_le (by omega) (by omega)]; omega), q_set (by omega) (by omega), Option.bind_some, if_pos c2]
      refine ⟨_, rfl, XS_put (Z := Z) (i := i + 1) ?_ c2, fun j hj => by rw [upd_n (by omega)]⟩
      rw [show i + 1 + (s - 1 - 0) = i + s by omega]; exact h
    · rw [if_pos (show nI (s - 1 - 0) ≤ 0 by rw [l0, q_le (by omega) (by omega)]; omega), if_neg c2]
      refine ⟨_, rfl, ?_, fun j hj => rfl⟩
      rw [show i + 1 = i + s by omega]; exact h
