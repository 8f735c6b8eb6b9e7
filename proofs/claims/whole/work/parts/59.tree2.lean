/-! ===== pure part 29: trees, accepted ===== -/
def hd : List Nat → Nat
  | [] => 0
  | s :: _ => s
def nt : List Nat → Nat → List Nat
  | [], _ => []
  | s :: r, v => prs v (prs (s - 1 - v) r)
def ts (n : Nat) (v : Nat → Nat) : Nat → List Nat
  | 0 => [n]
  | i + 1 => nt (ts n v i) (v i)
theorem ts_s (n : Nat) (v : Nat → Nat) (i : Nat) : ts n v (i + 1) = nt (ts n v i) (v i) := rfl
def tot : List Nat → Nat
  | [] => 0
  | s :: r => s + tot r
def Pos (l : List Nat) : Prop := ∀ s, s ∈ l → 0 < s
theorem prs_tot (s : Nat) (l : List Nat) : tot (prs s l) = s + tot l := by
  unfold prs
  by_cases c : 0 < s
  · rw [if_pos c]; rfl
  · rw [if_neg c]; omega
theorem prs_pos {s : Nat} {l : List Nat} (h : Pos l) : Pos (prs s l) := by
  unfold prs
  by_cases c : 0 < s
  · rw [if_pos c]
    intro x hx
    rcases List.mem_cons.mp hx with e | e
    · omega
    · exact h x e
  · rw [if_neg c]; exact h
theorem pos_len : ∀ {l : List Nat}, Pos l → l.length ≤ tot l
  | [], _ => Nat.le_refl 0
  | s :: r, h => by
    have h1 := pos_len (l := r) (fun x hx => h x (List.mem_cons_of_mem _ hx))
    have h2 := h s List.mem_cons_self
    rw [List.length_cons]; show r.length + 1 ≤ s + tot r; omega
theorem ts_ok {n : Nat} {v : Nat → Nat} (h1n : 1 ≤ n) {m : Nat} (h : ∀ i, i < m → v i + 1 ≤ hd (ts n v i)) : ∀ i, i ≤ m → Pos (ts n v i) ∧ tot (ts n v i) + i = n
  | 0, _ => ⟨(fun x hx => by rcases List.mem_cons.mp hx with e | e; omega; cases e), (by show n + 0 + 0 = n; omega)⟩
  | i + 1, hi => by
    obtain ⟨h1, h2⟩ := ts_ok h1n h i (by omega)
    have h3 := h i (by omega)
    rw [ts_s]
    generalize ts n v i = l at *
    cases l with
    | nil => exact absurd h3 (by show ¬ v i + 1 ≤ 0; omega)
    | cons s r =>
      have h3 : v i + 1 ≤ s := h3
      have h2 : s + tot r + i = n := h2
      refine ⟨prs_pos (prs_pos (fun x hx => h1 x (List.mem_cons_of_mem _ hx))), ?_⟩
      show tot (prs (v i) (prs (s - 1 - v i) r)) + (i + 1) = n
      rw [prs_tot, prs_tot]; omega
def AccB (n : Nat) (b : Nat → Int32) : Prop := ∀ i, i < n → b i = nI (b i).toNatClampNeg ∧ (b i).toNatClampNeg + 1 ≤ hd (ts n (fun i => (b i).toNatClampNeg) i)
theorem acc3_aux {n : Nat} (h1n : 1 ≤ n) (hn : n ≤ 30) (b of : Nat → Int32) (h0 : of 0 = nI n) : ∀ d i fx fm (Z S : Nat → Int32), i + d = n → d < fx → d < fm → (∀ j, j < i → b j = nI (b j).toNatClampNeg ∧ (b j).toNatClampNeg + 1 ≤ hd (ts n (fun i => (b i).toNatClampNeg) j)) → XS Z i (ts n (fun i => (b i).toNatClampNeg) i) → TS S (ts n (fun i => (b i).toNatClampNeg) i) → (∀ j, j < i → Z j = nI (hd (ts n (fun i => (b i).toNatClampNeg) j))) → ∃ (v : Int32) (Z' S' : Nat → Int32), rk_it2 (fX7_measure_L8 b (nI n)) fx (nI i) Z = some (v, Z') ∧ rk_it3 (fX10_isTree_L16 b of) fm (nI (ts n (fun i => (b i).toNatClampNeg) i).length) (nI i) S = some (v, S') ∧ (v = 0 ∧ ¬ AccB n b ∨ v = 1 ∧ AccB n b ∧ ∀ j, j < n → Z' j = nI (hd (ts n (fun i => (b i).toNatClampNeg) j))) := by
  intro d
  induction d with
  | zero =>
    intro i fx fm Z S hi hfx hfm hj hZ hS hh
    obtain ⟨fx, rfl, -⟩ := suc_of hfx
    obtain ⟨fm, rfl, -⟩ := suc_of hfm
    obtain rfl : i = n := by omega
    have hle : nI i ≤ nI i := by rw [q_le (by omega) (by omega)]; omega
    refine ⟨1, Z, S, ?_, ?_, Or.inr ⟨rfl, hj, hh⟩⟩
    · rw [it2_s]; unfold fX7_measure_L8; rw [if_pos hle]
    · rw [it3_s]; unfold fX10_isTree_L16; rw [h0, if_pos hle]
  | succ d ih =>
    intro i fx fm Z S hi hfx hfm hj hZ hS hh
    obtain ⟨fx, rfl, hfx⟩ := suc_of hfx
    obtain ⟨fm, rfl, hfm⟩ := suc_of hfm
    obtain ⟨k1, k2⟩ := ts_ok h1n (fun j h => (hj j h).2) i (Nat.le_refl i)
    have ih := ih (i + 1) fx fm
    rw [it2_s, it3_s]
    generalize rk_it2 (fX7_measure_L8 b (nI n)) fx = gx at ih ⊢
    generalize rk_it3 (fX10_isTree_L16 b of) fm = gm at ih ⊢
    have z0 : (0 : Int32).toInt = 0 := by decide
    have Z0 : (0 : Int64).toInt = 0 := by decide
    have e1 : nI i + 1 = nI (i + 1) := by rw [l1, q_add]
    have g1 : ¬ (nI i < 0 ∨ 60 ≤ i) := by rw [l0, q_lt (by omega) (by omega)]; omega
    have hbad : ∀ s r, ts n (fun i => (b i).toNatClampNeg) i = s :: r → ¬ (0 ≤ (b i).toInt ∧ (b i).toInt < s) → ¬ AccB n b := by
      intro s r e h z
      obtain ⟨h3, h4⟩ := z i (by omega)
      rw [e] at h4 k2
      have h4 : (b i).toNatClampNeg + 1 ≤ s := h4
      have k2 : s + tot r + i = n := k2
      have h5 : (b i).toInt = (b i).toNatClampNeg := by rw [congrArg Int32.toInt h3, i_nI (by omega)]
      omega
    have hgood : ∀ s r, ts n (fun i => (b i).toNatClampNeg) i = s :: r → 0 ≤ (b i).toInt → (b i).toInt < s → ∀ j, j < i + 1 → b j = nI (b j).toNatClampNeg ∧ (b j).toNatClampNeg + 1 ≤ hd (ts n (fun i => (b i).toNatClampNeg) j) := by
      intro s r e h1 h2 j hj'
      by_cases q : j = i
      · subst q; rw [e]; exact ⟨i_of h1, by show (b j).toNatClampNeg + 1 ≤ s; rw [i_cl]; omega⟩
      · exact hj j (by omega)
    have hts : ts n (fun i => (b i).toNatClampNeg) (i + 1) = nt (ts n (fun i => (b i).toNatClampNeg) i) (b i).toNatClampNeg := rfl
    have hhd : ∀ s r, ts n (fun i => (b i).toNatClampNeg) i = s :: r → hd (ts n (fun i => (b i).toNatClampNeg) i) = s := fun s r e => by rw [e]; rfl
    rw [hts] at ih
    generalize hl : ts n (fun i => (b i).toNatClampNeg) i = l at *
    cases l with
    | nil => exact absurd k2 (by show ¬ (0 + i = n); omega)
    | cons s r =>
      have k2 : s + tot r + i = n := k2
      have k3 := k1 s List.mem_cons_self
      have k4 := pos_len (l := r) (fun x hx => k1 x (List.mem_cons_of_mem _ hx))
      obtain ⟨hZ1, hZ2⟩ := hZ
      obtain ⟨hS1, hS2⟩ := hS
      have g2 : ¬ (nI r.length < 0 ∨ 64 ≤ r.length) := by rw [l0, q_lt (by omega) (by omega)]; omega
      unfold fX7_measure_L8 fX10_isTree_L16
      rw [List.length_cons, h0, if_neg (by rw [q_le (by omega) (by omega)]; omega), if_neg (by rw [q_le (by omega) (by omega)]; omega), q_at (by omega) (by omega), Option.bind_some, q_at (by omega) (by omega), Option.bind_some, pred_nI, q_cl (by omega), if_neg g2, q_cl (by omega), if_neg g1, hZ1, hS1, e1]
      by_cases rg : 0 ≤ (b i).toInt ∧ (b i).toInt < s
      · have v1 : b i = nI (b i).toNatClampNeg := i_of rg.1
        have v2 : (b i).toNatClampNeg + 1 ≤ s := by rw [i_cl]; omega
        have hg := hgood s r rfl rg.1 rg.2
        obtain ⟨Z', ez, hz1, hz2⟩ := x_split (r := r) hZ1 v2 (by omega) hZ2
        have hh' : ∀ j, j < i + 1 → Z' j = nI (hd (ts n (fun i => (b i).toNatClampNeg) j)) := by
          intro j hj'
          by_cases q : j = i
          · subst q; rw [hz2 j (Nat.le_refl j), hZ1, hl]; rfl
          · rw [hz2 j (by omega)]; exact hh j (by omega)
        have ih := fun S' hS' => ih Z' S' (by omega) (by omega) (by omega) hg hz1 hS' hh'
        have ih : ∀ S', TS S' (prs (b i).toNatClampNeg (prs (s - 1 - (b i).toNatClampNeg) r)) → ∃ (v : Int32) (Z'' S'' : Nat → Int32), gx (nI (i + 1)) Z' = some (v, Z'') ∧ gm (nI (prs (b i).toNatClampNeg (prs (s - 1 - (b i).toNatClampNeg) r)).length) (nI (i + 1)) S' = some (v, S'') ∧ (v = 0 ∧ ¬ AccB n b ∨ v = 1 ∧ AccB n b ∧ ∀ j, j < n → Z'' j = nI (hd (ts n (fun i => (b i).toNatClampNeg) j))) := ih
        clear hgood hbad hts hhd hg
        have hcl : (nI i).toNatClampNeg = i := q_cl (by omega)
        unfold fX10_isTree_B84 fX10_isTree_B100
        rw [hcl, e1]
        generalize (b i).toNatClampNeg = v at *
        have er : nI s - 1 - nI v = nI (s - 1 - v) := by rw [l1, q_sub (by omega), q_sub (by omega)]
        have vs : (nI v).toInt = v := i_nI (by omega)
        rw [v1, if_neg (nI_neg (by omega)), er, if_pos (show (0 : Int32) ≤ nI (s - 1 - v) by rw [l0, q_le (by omega) (by omega)]; omega), ez, Option.bind_some, w_yes (by rw [i_lt64, i_w, Z0]; omega) (by rw [i_lt64, i_dec, i_w, i_nI (by omega)]; omega), Option.bind_some, if_pos (show ¬ (1 : Int32) = 0 by decide)]
        have e3 : ∀ k : Nat, nI k + 1 = nI (k + 1) := fun k => by rw [l1, q_add]
        rw [e3]
        by_cases c2 : 0 < s - 1 - v
        · have p2 : prs (s - 1 - v) r = (s - 1 - v) :: r := if_pos c2
          have t2 := TS_put (s := s - 1 - v) hS2
          rw [p2] at ih
          rw [if_neg (show ¬ nI (s - 1 - v) ≤ 0 by rw [l0, q_le (by omega) (by omega)]; omega)]
          by_cases c : 0 < v
          · have p1 : prs v ((s - 1 - v) :: r) = v :: (s - 1 - v) :: r := if_pos c
            have g3 : ¬ (nI (r.length + 1) < 0 ∨ 64 ≤ r.length + 1) := by rw [l0, q_lt (by omega) (by omega)]; omega
            rw [p1] at ih
            rw [if_neg (show ¬ nI v ≤ 0 by rw [l0, q_le (by omega) (by omega)]; omega), q_cl (by omega), if_neg g3, e3]
            exact ih _ (TS_put (s := v) t2)
          · have p1 : prs v ((s - 1 - v) :: r) = (s - 1 - v) :: r := if_neg c
            rw [p1] at ih
            rw [if_pos (show nI v ≤ 0 by rw [l0, q_le (by omega) (by omega)]; omega)]
            exact ih _ t2
        · have p2 : prs (s - 1 - v) r = r := if_neg c2
          rw [p2] at ih
          rw [if_pos (show nI (s - 1 - v) ≤ 0 by rw [l0, q_le (by omega) (by omega)]; omega)]
          by_cases c : 0 < v
          · have p1 : prs v r = v :: r := if_pos c
            rw [p1] at ih
            rw [if_neg (show ¬ nI v ≤ 0 by rw [l0, q_le (by omega) (by omega)]; omega), q_cl (by omega), if_neg g2]
            exact ih _ (TS_put (s := v) hS2)
          · have p1 : prs v r = r := if_neg c
            rw [p1] at ih
            rw [if_pos (show nI v ≤ 0 by rw [l0, q_le (by omega) (by omega)]; omega)]
            exact ih _ hS2
      · have hno := hbad s r rfl rg
        have bad : ∃ (v : Int32) (Z' S' : Nat → Int32), some ((0 : Int32), Z) = some (v, Z') ∧ some ((0 : Int32), S) = some (v, S') ∧ (v = 0 ∧ ¬ AccB n b ∨ v = 1 ∧ AccB n b ∧ ∀ j, j < n → Z' j = nI (hd (ts n (fun i => (b i).toNatClampNeg) j))) := ⟨0, Z, S, rfl, rfl, Or.inl ⟨rfl, hno⟩⟩
        rw [w_no (by rw [i_lt64, i_lt64, i_dec, i_w, i_nI (by omega), Z0]; omega), Option.bind_some, if_neg (show ¬ ¬ (0 : Int32) = 0 by decide)]
        by_cases r1 : (b i).toInt < 0
        · rw [if_pos (by rw [i_lt, z0]; exact r1)]; exact bad
        · have hr := i_rng (b i)
          have es : (nI s - 1 - b i).toInt = (s : Int) - 1 - (b i).toInt := by
            rw [show nI s - 1 = nI (s - 1) by rw [l1, q_sub (by omega)], Int32.toInt_sub, i_nI (by omega), show ((s - 1 : Nat) : Int) = (s : Int) - 1 by omega]
            exact Int.bmod_eq_of_le (by omega) (by omega)
          rw [if_neg (by rw [i_lt, z0]; exact r1), if_neg (by rw [i_le, z0, es]; omega)]; exact bad
theorem x_meas {n : Nat} (h1n : 1 ≤ n) (hn : n ≤ 30) (b Z S of : Nat → Int32) (h0 : of 0 = nI n) : ∃ (v : Int32) (Z' S' : Nat → Int32), fX7_measure Z b (nI n) = some (v, Z') ∧ fX10_isTree S b of = some (v, S') ∧ (v = 0 ∧ ¬ AccB n b ∨ v = 1 ∧ AccB n b ∧ ∀ j, j < n → Z' j = nI (hd (ts n (fun i => (b i).toNatClampNeg) j))) := by
  unfold fX7_measure fX10_isTree
  rw [l0, q_set (by omega) (by omega), Option.bind_some, h0]
  exact acc3_aux h1n hn b of h0 n 0 FU FU (upd Z 0 (nI n)) (upd S 0 (nI n)) (by omega) (FU_gt (by omega)) (FU_gt (by omega)) (fun j hj => by omega) ⟨by rw [upd_s], trivial⟩ ⟨by show upd S 0 (nI n) 0 = nI n; rw [upd_s], trivial⟩ (fun j hj => by omega)
theorem acc3 {n : Nat} (h1n : 1 ≤ n) (hn : n ≤ 30) (b L Z S of : Nat → Int32) (h0 : of 0 = nI n) : ∃ (v : Int32) (Z' S' : Nat → Int32), fX7_accepts (nI n) b L Z = some (v, L, Z') ∧ fX10_isTree S b of = some (v, S') ∧ (v = 0 ∧ ¬ AccB n b ∨ v = 1 ∧ AccB n b) := by
  obtain ⟨v, Z', S', e1, e2, e3⟩ := x_meas h1n hn b Z S of h0
  refine ⟨v, Z', S', ?_, e2, ?_⟩
  · unfold fX7_accepts
    rw [e1, Option.bind_some]
    rcases e3 with ⟨rfl, -⟩ | ⟨rfl, -⟩
    · exact if_pos (show (0 : Int32) &&& 1 = 0 by decide)
    · exact if_pos (show (1 : Int32) &&& 1 = 1 by decide)
  · rcases e3 with e3 | ⟨e3, e4, -⟩
    · exact Or.inl e3
    · exact Or.inr ⟨e3, e4⟩
