/-! ===== pure part 12: permutations laid by plain changes ===== -/
def dv (n r : Nat) : Nat → Nat
  | 0 => r
  | k + 1 => dv n r k / (n - k)
theorem dv_le (n r : Nat) : ∀ k, dv n r k ≤ r
  | 0 => Nat.le_refl r
  | k + 1 => Nat.le_trans (Nat.div_le_self _ _) (dv_le n r k)
theorem dv_s (n r k : Nat) : dv n r (k + 1) = dv n r k / (n - k) := rfl
def tv (n r m : Nat) : Nat := tn (dv n r (n - m)) m (dv n r (n - 1 - m) % (m + 1))
theorem tv_le (n r m : Nat) : tv n r m ≤ m := tn_le (by have := Nat.mod_lt (dv n r (n - 1 - m)) (show 0 < m + 1 by omega); omega)
def ins (P : Nat → Nat) (m t : Nat) : Nat → Nat := fun j => if j < t then P j else if j = t then m else P (j - 1)
theorem ins_lt {P : Nat → Nat} {m t j : Nat} (h : j < t) : ins P m t j = P j := if_pos h
theorem ins_at (P : Nat → Nat) (m t : Nat) : ins P m t t = m := by
  show (if t < t then P t else if t = t then m else P (t - 1)) = m
  rw [if_neg (by omega), if_pos rfl]
theorem ins_gt {P : Nat → Nat} {m t j : Nat} (h : t < j) : ins P m t j = P (j - 1) := by
  show (if j < t then P j else if j = t then m else P (j - 1)) = P (j - 1)
  rw [if_neg (by omega), if_neg (by omega)]
def PI (t : Nat → Nat) : Nat → Nat → Nat
  | 0 => fun _ => 0
  | m + 1 => ins (PI t m) m (t m)
theorem PI_s (t : Nat → Nat) (m : Nat) : PI t (m + 1) = ins (PI t m) m (t m) := rfl
theorem cu_ins {P : Nat → Nat} {M t m : Nat} (hm : m ≤ M) : ∀ i, cu (ins P M t) m i = if i ≤ t then cu P m i else cu P m (i - 1)
  | 0 => by rw [if_pos (by omega)]; rfl
  | i + 1 => by
    rw [cu_s, cu_ins hm i]
    rcases Nat.lt_trichotomy i t with h | h | h
    · rw [ins_lt h, if_pos (show i ≤ t by omega), if_pos (show i + 1 ≤ t by omega), cu_s]
    · subst h
      rw [if_pos (Nat.le_refl i), ins_at, if_neg (by omega), if_neg (by omega)]; rfl
    · rw [ins_gt h, if_neg (show ¬ i ≤ t by omega), if_neg (show ¬ i + 1 ≤ t by omega)]
      obtain ⟨i', rfl⟩ : ∃ i', i = i' + 1 := ⟨i - 1, by omega⟩
      show cu P m i' + (if P i' < m then 1 else 0) = cu P m (i' + 1)
      rw [cu_s]
theorem PI_ok {t : Nat → Nat} (ht : ∀ m, t m ≤ m) : ∀ n, (∀ j, j < n → PI t n j < n) ∧ Inj n (PI t n) ∧ Tur n (PI t n) t
  | 0 => ⟨fun j h => by omega, fun i j h1 h2 => by omega, fun m h => by omega⟩
  | n + 1 => by
    obtain ⟨hb, hi, hT⟩ := PI_ok ht n
    have h0 := ht n
    rw [PI_s]
    have hb' : ∀ j, j < n + 1 → ins (PI t n) n (t n) j < n + 1 := by
      intro j hj
      rcases Nat.lt_trichotomy j (t n) with h | h | h
      · rw [ins_lt h]; have := hb j (by omega); omega
      · rw [h, ins_at]; omega
      · rw [ins_gt h]; have := hb (j - 1) (by omega); omega
    have hi' : Inj (n + 1) (ins (PI t n) n (t n)) := by
      intro i j hj hin
      rcases Nat.lt_trichotomy i (t n) with h | h | h
      · rw [ins_lt h, ins_lt (by omega)]; exact hi i j hj (by omega)
      · rw [h, ins_at, ins_lt (by omega)]; have := hb j (by omega); omega
      · rw [ins_gt h]
        rcases Nat.lt_trichotomy j (t n) with g | g | g
        · rw [ins_lt g]; exact hi (i - 1) j (by omega) (by omega)
        · rw [g, ins_at]; have := hb (i - 1) (by omega); omega
        · rw [ins_gt g]; exact hi (i - 1) (j - 1) (by omega) (by omega)
    refine ⟨hb', hi', fun m hm => ⟨ht m, ?_⟩⟩
    by_cases c : m = n
    · subst c
      refine ⟨t m, by omega, ins_at _ _ _, fun j hj => ?_, ?_⟩
      · rw [ins_lt hj]; have := hb j (by omega); omega
      · rw [cu_ins (Nat.le_refl m), if_pos (Nat.le_refl _)]
        exact cu_all (fun j hj => hb j (by omega))
    · obtain ⟨-, p, h1, h2, h3, h4⟩ := hT m (by omega)
      by_cases g : p < t n
      · refine ⟨p, by omega, by rw [ins_lt g]; exact h2, fun j hj => by rw [ins_lt (by omega)]; exact h3 j hj, ?_⟩
        rw [cu_ins (by omega), if_pos (by omega)]; exact h4
      · have e : ins (PI t n) n (t n) (p + 1) = m := by rw [ins_gt (by omega)]; exact h2
        refine ⟨p + 1, by omega, e, fun j hj => by have := hi' (p + 1) j hj (by omega); rw [e] at this; exact this, ?_⟩
        rw [cu_ins (by omega), if_neg (by omega)]; exact h4
/-- the row while the lesser numbers are wanting -/
def mk (P : Nat → Nat) (m j : Nat) : Int32 := if P j < m then -1 else nI (P j)
theorem mk_lt {P : Nat → Nat} {m j : Nat} (h : P j < m) : mk P m j = -1 := if_pos h
theorem mk_ge {P : Nat → Nat} {m j : Nat} (h : ¬ P j < m) : mk P m j = nI (P j) := if_neg h
theorem x_free {n m p : Nat} (hn : n ≤ 20) {P : Nat → Nat} (hb : ∀ j, j < n → P j < n) {a : Nat → Int32} (ha : ∀ j, j < n → a j = mk P (m + 1) j) (hm : m < n) (h1 : p < n) (h2 : P p = m) (h3 : ∀ j, j < p → P j ≠ m) (hc : cu P m p ≤ m) : fX5_freePlace (nI n) a (nI (cu P m p)) = some (nI p) := by
  unfold fX5_freePlace
  obtain ⟨x, c, q, ⟨rfl, rfl⟩, h⟩ := lpG2 (fX5_freePlace_L5 (nI n) a (nI (cu P m p))) (fun i x c => x = nI (cu P m i) ∧ c = nI i) p (by
    rintro i x c hi ⟨rfl, rfl⟩
    refine ⟨_, _, ⟨rfl, rfl⟩, fun g => ?_⟩
    have h4 := h3 i hi
    have h5 := hb i (by omega)
    have h6 := cu_mono (v := P) (m := m) (i := i + 1) (j := p) (by omega)
    have h7 := cu_mono (v := P) (m := m) (i := i) (j := i + 1) (by omega)
    unfold fX5_freePlace_L5 fX5_freePlace_B34
    rw [if_neg (by rw [q_le (by omega) (by omega)]; omega), q_at (by omega) (by omega), Option.bind_some, ha i (by omega)]
    by_cases c : P i < m
    · rw [cu_s, if_pos c] at h6
      rw [mk_lt (by omega), if_neg (by decide), if_pos (by rw [q_eq (by omega) (by omega)]; omega), cu_s, if_pos c, l1, q_add, q_add]
    · rw [mk_ge (by omega), if_pos (by rw [l0, q_le (by omega) (by omega)]; omega), cu_s, if_neg c, l1, q_add]; rfl) p 0 (nI 0) (nI 0) FU (by omega) (FU_gt (by omega)) ⟨rfl, rfl⟩
  rw [l0, h]
  unfold fX5_freePlace_L5
  rw [if_neg (by rw [q_le (by omega) (by omega)]; omega), q_at (by omega) (by omega), Option.bind_some, ha p h1]
  rw [mk_lt (by omega), if_neg (by decide), if_neg (fun z => z rfl)]
theorem x_pl {n r : Nat} (h1n : 1 ≤ n) (hn : n ≤ 20) (hr : r < 9223372036854775808) (a : Nat → Int32) : ∃ w, fX5_layPlain a (nI n) (lN r) = some w ∧ ∀ j, j < n → w j = nI (PI (tv n r) n j) := by
  obtain ⟨hb, hi, hT⟩ := PI_ok (tv_le n r) n
  unfold fX5_layPlain
  obtain ⟨c, a1, q, ⟨rfl, ha⟩, h⟩ := lpG2 (fX5_layPlain_L3 (nI n) (lN r)) (fun i c a => c = nI i ∧ ∀ j, j < i → a j = (-1 : Int32)) n (by
    rintro i c a hi ⟨rfl, ha⟩
    refine ⟨_, upd a i (-1), ⟨rfl, fun j hj => ?_⟩, fun g => ?_⟩
    · by_cases e : j = i
      · subst e; rw [upd_s]
      · rw [upd_n e]; exact ha j (by omega)
    · unfold fX5_layPlain_L3
      rw [if_neg (by rw [q_le (by omega) (by omega)]; omega), q_set (by omega) (by omega), Option.bind_some, l1, q_add]) n 0 (nI 0) a FU (by omega) (FU_gt (by omega)) ⟨rfl, fun j h => by omega⟩
  rw [l0, h]
  unfold fX5_layPlain_L3
  rw [if_pos (by rw [q_le (by omega) (by omega)]; omega)]
  obtain ⟨x, c, w, q2, ⟨rfl, rfl, hw⟩, h'⟩ := lpG3 (fX5_layPlain_L36 (nI n)) (fun k x c a => x = lN (dv n r k) ∧ c = nI (n - k) + (-1) ∧ ∀ j, j < n → a j = mk (PI (tv n r) n) (n - k) j) n (by
    rintro k x c a hk ⟨rfl, rfl, ha⟩
    have hd := dv_le n r k
    have hd2 := dv_le n r (k + 1)
    obtain ⟨m, rfl⟩ : ∃ m, n = k + (m + 1) := ⟨n - k - 1, by omega⟩
    rw [show k + (m + 1) - k = m + 1 by omega] at ha ⊢
    obtain ⟨k0, p, k1, k2, k3, k4⟩ := hT m (by omega)
    refine ⟨_, _, upd a p (nI m), ⟨rfl, rfl, fun j hj => ?_⟩, fun g => ?_⟩
    · rw [show k + (m + 1) - (k + 1) = m by omega]
      by_cases e : j = p
      · subst e; rw [upd_s, mk_ge (by omega), k2]
      · rw [upd_n e, ha j hj]
        have e2 : PI (tv (k + (m + 1)) r) (k + (m + 1)) j ≠ m := by
          rcases Nat.lt_or_gt_of_ne e with e | e
          · exact k3 j e
          · have := hi j p e hj; rw [k2] at this; exact fun z => this z.symm
        by_cases c : PI (tv (k + (m + 1)) r) (k + (m + 1)) j < m
        · rw [mk_lt c, mk_lt (by omega)]
        · rw [mk_ge c, mk_ge (by omega)]
    · have hmod := Nat.mod_lt (dv (k + (m + 1)) r k) (show 0 < m + 1 by omega)
      have e3 : tv (k + (m + 1)) r m = tn (dv (k + (m + 1)) r (k + 1)) m (dv (k + (m + 1)) r k % (m + 1)) := by
        unfold tv
        rw [show k + (m + 1) - m = k + 1 by omega, show k + (m + 1) - 1 - m = k by omega]
      have e4 : dv (k + (m + 1)) r k / (m + 1) = dv (k + (m + 1)) r (k + 1) := by rw [dv_s, show k + (m + 1) - k = m + 1 by omega]
      unfold fX5_layPlain_L36
      rw [pred_nI, if_neg (nI_neg (by omega)), l1, q_add, q_i2l (by omega), q_rmd (by omega) (by omega) (by omega), Option.bind_some, q_quo (by omega) (by omega) (by omega), Option.bind_some, q_l2i, e4, q_turn (by omega), Option.bind_some, ← e3, ← k4, x_free hn hb ha (by omega) k1 k2 k3 (by omega), Option.bind_some, q_set (by omega) (by omega), Option.bind_some, show k + (m + 1) - (k + 1) = m by omega]) n 0 (lN r) (nI n + (-1)) a1 FU (by omega) (FU_gt (by omega)) ⟨rfl, rfl, fun j hj => by rw [ha j hj, mk_lt (by have := hb j hj; omega)]⟩
  have e1 : nI n - 1 = nI n + (-1) := by rw [q_m1 h1n, l1, q_sub h1n]
  rw [e1, h']
  refine ⟨w, ?_, fun j hj => by rw [hw j hj, mk_ge (by omega)]⟩
  unfold fX5_layPlain_L36
  rw [if_pos (by rw [Nat.sub_self]; decide)]
