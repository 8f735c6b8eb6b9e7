/-! ===== pure part 23: words, brackets as bits ===== -/
theorem k_shl : ((1 : Int32).toInt64 &&& (63 : Int64)).toBitVec.smod 64 = 1#64 := by decide
theorem Q_shl1 (a : Nat) : lN a <<< ((1 : Int32).toInt64 &&& (63 : Int64)) = lN (2 * a) := by
  apply Int64.toBitVec_inj.mp
  rw [Int64.toBitVec_shiftLeft, k_shl, BitVec.shiftLeft_eq']
  apply BitVec.eq_of_toNat_eq
  rw [BitVec.toNat_shiftLeft, Nat.shiftLeft_eq]
  show a % 18446744073709551616 * 2 % 18446744073709551616 = 2 * a % 18446744073709551616
  omega
theorem Q_or (a t : Nat) (ht : t < 2) : lN (2 * a) ||| lN t = lN (2 * a + t) := by
  apply Int64.toBitVec_inj.mp
  rw [Int64.toBitVec_or]
  apply BitVec.eq_of_toNat_eq
  rw [BitVec.toNat_or]
  show 2 * a % 18446744073709551616 ||| t % 18446744073709551616 = (2 * a + t) % 18446744073709551616
  rw [Nat.mod_eq_of_lt (a := t) (by omega), show 2 * a % 18446744073709551616 = (a % 9223372036854775808) <<< 1 by rw [Nat.shiftLeft_eq]; omega, ← Nat.shiftLeft_add_eq_or_of_lt (by omega), Nat.shiftLeft_eq]
  omega
theorem Q_ushr (a : Nat) (ha : a < 18446744073709551616) : ((lN a).toUInt64 >>> ((1 : Int32).toInt64.toUInt64 &&& Int64.toUInt64 63)).toInt64 = lN (a / 2) := by
  apply Int64.toBitVec_inj.mp
  show ((lN a).toUInt64 >>> ((1 : Int32).toInt64.toUInt64 &&& Int64.toUInt64 63)).toBitVec = _
  rw [UInt64.toBitVec_shiftRight]
  have e : ((1 : Int32).toInt64.toUInt64 &&& Int64.toUInt64 63).toBitVec % 64 = 1#64 := by decide
  rw [e, BitVec.ushiftRight_eq']
  apply BitVec.eq_of_toNat_eq
  rw [BitVec.toNat_ushiftRight, Nat.shiftRight_eq_div_pow]
  show a % 18446744073709551616 / 2 = a / 2 % 18446744073709551616
  omega
theorem k_type : ∀ v : Fin 4, ((nI v.val) >>> ((1 : Int32) &&& 31)).toInt64 = lN (v.val / 2) := by decide
theorem k_opn : ∀ v : Fin 4, fX8_isOpening (nI v.val) = some (if v.val % 2 = 0 then 1 else 0) := by
  intro v
  unfold fX8_isOpening
  revert v
  decide
theorem Q_shl {a k : Nat} (hk : k < 63) : lN a <<< (lN k &&& (63 : Int64)) = lN (a * 2 ^ k) := by
  have h63 : ∀ x : Fin 63, (lN x.val &&& (63 : Int64)).toBitVec.smod 64 = BitVec.ofNat 64 x.val := by decide
  have hx : ∀ x : Fin 63, (BitVec.ofNat 64 x.val).toNat = x.val := by decide
  apply Int64.toBitVec_inj.mp
  rw [Int64.toBitVec_shiftLeft, h63 ⟨k, hk⟩, BitVec.shiftLeft_eq', hx ⟨k, hk⟩]
  apply BitVec.eq_of_toNat_eq
  rw [BitVec.toNat_shiftLeft, Nat.shiftLeft_eq]
  show a % 18446744073709551616 * 2 ^ k % 18446744073709551616 = a * 2 ^ k % 18446744073709551616
  rw [Nat.mod_mul_mod]
/-- in how many ways a word can end -/
def we (tp l o : Nat) : Nat := if tp = 2 then bl l o * 2 ^ ((l - o) / 2) else bl l o
theorem bl_pow : ∀ l o : Nat, bl l o ≤ 2 ^ l := by
  intro l
  induction l with
  | zero => intro o; cases o <;> simp [bl]
  | succ l ih =>
    intro o
    cases o with
    | zero => have := ih 1; rw [Nat.pow_succ]; show bl l 1 ≤ _; omega
    | succ o => have h1 := ih (o + 2); have h2 := ih o; rw [Nat.pow_succ]; show bl l (o + 2) + bl l o ≤ _; omega
theorem we_lt {tp l o : Nat} (h : l ≤ 40) : we tp l o ≤ 1152921504606846976 := by
  have h1 := bl_pow l o
  have h2 : 2 ^ l ≤ 2 ^ 40 := Nat.pow_le_pow_right (by omega) h
  unfold we
  by_cases c : tp = 2
  · rw [if_pos c]
    have h3 : 2 ^ ((l - o) / 2) ≤ 2 ^ 20 := Nat.pow_le_pow_right (by omega) (by omega)
    have h4 := Nat.mul_le_mul (Nat.le_trans h1 h2) h3
    have h5 : 2 ^ 40 * 2 ^ 20 = 1152921504606846976 := by decide
    omega
  · rw [if_neg c]
    have h5 : 2 ^ 40 = 1099511627776 := by decide
    omega
theorem we_out {tp l o : Nat} (h : l < o) : we tp l o = 0 := by
  unfold we
  rw [bl_out h, Nat.zero_mul]
  by_cases c : tp = 2
  · rw [if_pos c]
  · rw [if_neg c]
theorem we_rec0 {tp l : Nat} (htp : tp = 1 ∨ tp = 2) (hp : l % 2 = 1) : we tp (l + 1) 0 = tp * we tp l 1 := by
  unfold we
  rcases htp with rfl | rfl
  · rw [if_neg (by omega), if_neg (by omega), Nat.one_mul]; rfl
  · rw [if_pos rfl, if_pos rfl]
    show bl l 1 * _ = _
    rw [show (l + 1 - 0) / 2 = (l - 1) / 2 + 1 by omega, Nat.pow_succ, ← Nat.mul_assoc, Nat.mul_comm]
theorem we_rec {tp l o : Nat} (htp : tp = 1 ∨ tp = 2) (hp : (l + o) % 2 = 0) : we tp (l + 1) (o + 1) = tp * we tp l (o + 2) + we tp l o := by
  unfold we
  rcases htp with rfl | rfl
  · rw [if_neg (by omega), if_neg (by omega), if_neg (by omega), Nat.one_mul]; rfl
  · rw [if_pos rfl, if_pos rfl, if_pos rfl]
    show (bl l (o + 2) + bl l o) * _ = _
    rw [show l + 1 - (o + 1) = l - o by omega, Nat.add_mul]
    by_cases c : o + 2 ≤ l
    · rw [show (l - o) / 2 = (l - (o + 2)) / 2 + 1 by omega, Nat.pow_succ, ← Nat.mul_assoc, Nat.mul_comm _ 2]
    · rw [bl_out (o := o + 2) (by omega), Nat.zero_mul, Nat.zero_mul]
theorem x_we {B : Nat → Int64} (hB : TB B) {tp l o : Nat} (htp : tp = 1 ∨ tp = 2) (hl : l ≤ 40) (ho : o ≤ 60) (hp : (l + o) % 2 = 0) : fX2_wordEnds B (nI l) (nI o) (nI tp) = some (lN (we tp l o)) := by
  unfold fX2_wordEnds
  rw [if_neg (nI_neg (by omega))]
  by_cases c : o ≤ l
  · obtain ⟨j, rfl⟩ : ∃ j, l = o + 2 * j := ⟨(l - o) / 2, by omega⟩
    have h1 := bl_cb (o + 2 * j) o j rfl
    have e1 : (nI (o + 2 * j) - nI o) / 2 = nI j := by rw [q_sub (by omega), l2, q_div (by omega) (by omega) (by omega), show (o + 2 * j - o) / 2 = j by omega]
    have e2 : fX2_binomial B (nI (o + 2 * j)) (nI j - 1) = some (lN (cbm (o + 2 * j) j)) := by
      cases j with
      | zero => rw [show nI 0 - 1 = (-1 : Int32) by decide, q_binm]; rfl
      | succ j => rw [l1, q_sub (by omega), q_bin hB (by omega) (by omega)]; rfl
    rw [if_pos (by rw [q_le (by omega) (by omega)]; exact c), e1, q_bin hB (by omega) (by omega), Option.bind_some, e2, Option.bind_some, Q_sub (by omega), show cb (o + 2 * j) j - cbm (o + 2 * j) j = bl (o + 2 * j) o by omega]
    unfold we
    rcases htp with rfl | rfl
    · rw [if_pos (by decide), if_neg (by omega)]
    · rw [if_neg (by decide), if_pos rfl, q_i2l (by omega), Q_shl (by omega), show (o + 2 * j - o) / 2 = j by omega]
  · rw [if_neg (by rw [q_le (by omega) (by omega)]; exact c), we_out (by omega)]; rfl
theorem m_we {T : Nat → Int64} (hT : TL T) {tp l o : Nat} (htp : tp = 1 ∨ tp = 2) (hl : l ≤ 40) (ho : o ≤ 60) : fX10_waysOn T (nI l) (nI o) (nI tp) = some (lN (we tp l o)) := by
  unfold fX10_waysOn
  by_cases c : o ≤ l
  · have g1 : ¬ (nI (42 * l + o) < 0 ∨ 1722 ≤ 42 * l + o) := by rw [l0, q_lt (by omega) (by omega)]; omega
    rw [if_pos (by rw [q_le (by omega) (by omega)]; exact c), l42, q_mul, q_add, q_cl (by omega), if_neg g1, hT l o hl (by omega)]
    unfold we
    rcases htp with rfl | rfl
    · rw [if_pos (by decide), if_neg (by omega)]
    · rw [if_neg (by decide), if_pos rfl, q_sub c, l2, q_div (by omega) (by omega) (by omega), q_i2l (by omega), Q_shl (by omega)]
  · rw [if_neg (by rw [q_le (by omega) (by omega)]; exact c), we_out (by omega)]; rfl
-- the open brackets, the latest one first
def bits : List Nat → Nat
  | [] => 0
  | t :: st => 2 * bits st + t
def SK (S : Nat → Int32) : List Nat → Prop
  | [] => True
  | t :: st => S st.length = nI (2 * t) ∧ SK S st
def okb : List Nat → Nat → Bool
  | [], v => v % 2 == 0
  | t :: _, v => v % 2 == 0 || t == v / 2
def nx (st : List Nat) (v : Nat) : List Nat := if v % 2 = 0 then (v / 2) :: st else st.tail
def wv (tp l : Nat) (st : List Nat) (v : Nat) : Nat := if okb st v = true then we tp l (nx st v).length else 0
def B01 (st : List Nat) : Prop := ∀ t, t ∈ st → t < 2
theorem okb_even {st : List Nat} {v : Nat} (h : v % 2 = 0) : okb st v = true := by
  cases st <;> simp [okb, h]
theorem okb_odd {t : Nat} {st : List Nat} {v : Nat} (h : v % 2 = 1) : okb (t :: st) v = true ↔ t = v / 2 := by
  simp [okb, h]
theorem okb_nil {v : Nat} (h : v % 2 = 1) : okb [] v = false := by simp [okb, h]
theorem nx_even {st : List Nat} {v : Nat} (h : v % 2 = 0) : nx st v = (v / 2) :: st := if_pos h
theorem nx_odd {st : List Nat} {v : Nat} (h : v % 2 = 1) : nx st v = st.tail := if_neg (by omega)
theorem nx_01 {st : List Nat} {v : Nat} (hb : B01 st) (hv : v < 4) : B01 (nx st v) := by
  intro t ht
  by_cases c : v % 2 = 0
  · rw [nx_even c] at ht
    rcases List.mem_cons.mp ht with h | h
    · omega
    · exact hb t h
  · rw [nx_odd (by omega)] at ht
    exact hb t (List.mem_of_mem_tail ht)
theorem nx_par {st : List Nat} {v : Nat} (h : okb st v = true) : ((nx st v).length + st.length) % 2 = 1 ∧ (nx st v).length ≤ st.length + 1 := by
  by_cases c : v % 2 = 0
  · rw [nx_even c, List.length_cons]; omega
  · rw [nx_odd (by omega)]
    cases st with
    | nil => rw [okb_nil (by omega)] at h; cases h
    | cons t st => rw [List.tail_cons, List.length_cons]; omega
theorem bits_lt : ∀ {st : List Nat}, B01 st → bits st < 2 ^ st.length
  | [], _ => by decide
  | t :: st, h => by
    have h1 := bits_lt (st := st) (fun x hx => h x (List.mem_cons_of_mem _ hx))
    have h2 := h t List.mem_cons_self
    rw [List.length_cons, Nat.pow_succ]
    show 2 * bits st + t < _
    omega
theorem bits_lt' {st : List Nat} (h : B01 st) (hl : st.length ≤ 60) : bits st < 1152921504606846976 := by
  have h1 := bits_lt h
  have h2 : 2 ^ st.length ≤ 2 ^ 60 := Nat.pow_le_pow_right (by omega) hl
  omega
theorem bits_mod {t : Nat} {st : List Nat} (h : t < 2) : bits (t :: st) % 2 = t := by show (2 * bits st + t) % 2 = t; omega
theorem bits_div {t : Nat} {st : List Nat} (h : t < 2) : bits (t :: st) / 2 = bits st := by show (2 * bits st + t) / 2 = bits st; omega
