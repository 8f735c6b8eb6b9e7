theorem inX0 : ∀ w ∈ u_ws RX0 TX0 4, w ∈ rk_c := by
  intro w h
  have h : w ∈ ([u_lay RX0 TX0 0, u_lay RX0 TX0 1, u_lay RX0 TX0 2, u_lay RX0 TX0 3] : List Cond) := h
  simp only [List.mem_cons, List.not_mem_nil, or_false] at h
  rcases h with rfl | rfl | rfl | rfl
  · exact w_1_99
  · exact w_1_101
  · exact w_1_103
  · exact w_1_105
theorem inX1 : ∀ w ∈ u_ws RX1 TX1 7, w ∈ rk_c := by
  intro w h
  have h : w ∈ ([u_lay RX1 TX1 0, u_lay RX1 TX1 1, u_lay RX1 TX1 2, u_lay RX1 TX1 3, u_lay RX1 TX1 4, u_lay RX1 TX1 5, u_lay RX1 TX1 6] : List Cond) := h
  simp only [List.mem_cons, List.not_mem_nil, or_false] at h
  rcases h with rfl | rfl | rfl | rfl | rfl | rfl | rfl
  · exact w_2_168
  · exact w_2_169
  · exact w_2_170
  · exact w_2_160
  · exact w_2_162
  · exact w_2_164
  · exact w_2_166
theorem inX2 : ∀ w ∈ u_ws RX2 TX2 7, w ∈ rk_c := by
  intro w h
  have h : w ∈ ([u_lay RX2 TX2 0, u_lay RX2 TX2 1, u_lay RX2 TX2 2, u_lay RX2 TX2 3, u_lay RX2 TX2 4, u_lay RX2 TX2 5, u_lay RX2 TX2 6] : List Cond) := h
  simp only [List.mem_cons, List.not_mem_nil, or_false] at h
  rcases h with rfl | rfl | rfl | rfl | rfl | rfl | rfl
  · exact w_1_68
  · exact w_1_70
  · exact w_1_72
  · exact w_1_74
  · exact w_1_76
  · exact w_1_78
  · exact w_1_80
theorem inX4 : ∀ w ∈ u_ws RX4 TX4 4, w ∈ rk_c := by
  intro w h
  have h : w ∈ ([u_lay RX4 TX4 0, u_lay RX4 TX4 1, u_lay RX4 TX4 2, u_lay RX4 TX4 3] : List Cond) := h
  simp only [List.mem_cons, List.not_mem_nil, or_false] at h
  rcases h with rfl | rfl | rfl | rfl
  · exact w_2_139
  · exact w_2_140
  · exact w_2_141
  · exact w_2_137
theorem inX5 : ∀ w ∈ u_ws RX5 TX5 4, w ∈ rk_c := by
  intro w h
  have h : w ∈ ([u_lay RX5 TX5 0, u_lay RX5 TX5 1, u_lay RX5 TX5 2, u_lay RX5 TX5 3] : List Cond) := h
  simp only [List.mem_cons, List.not_mem_nil, or_false] at h
  rcases h with rfl | rfl | rfl | rfl
  · exact w_2_78
  · exact w_2_79
  · exact w_2_80
  · exact w_2_76
theorem inX6 : ∀ w ∈ u_ws RX6 TX6 5, w ∈ rk_c := by
  intro w h
  have h : w ∈ ([u_lay RX6 TX6 0, u_lay RX6 TX6 1, u_lay RX6 TX6 2, u_lay RX6 TX6 3, u_lay RX6 TX6 4] : List Cond) := h
  simp only [List.mem_cons, List.not_mem_nil, or_false] at h
  rcases h with rfl | rfl | rfl | rfl | rfl
  · exact w_1_145
  · exact w_1_147
  · exact w_1_149
  · exact w_1_141
  · exact w_1_143
theorem inX7 : ∀ w ∈ u_ws RX7 TX7 3, w ∈ rk_c := by
  intro w h
  have h : w ∈ ([u_lay RX7 TX7 0, u_lay RX7 TX7 1, u_lay RX7 TX7 2] : List Cond) := h
  simp only [List.mem_cons, List.not_mem_nil, or_false] at h
  rcases h with rfl | rfl | rfl
  · exact w_2_121
  · exact w_2_122
  · exact w_2_123
theorem inX8 : ∀ w ∈ u_ws RX8 TX8 5, w ∈ rk_c := by
  intro w h
  have h : w ∈ ([u_lay RX8 TX8 0, u_lay RX8 TX8 1, u_lay RX8 TX8 2, u_lay RX8 TX8 3, u_lay RX8 TX8 4] : List Cond) := h
  simp only [List.mem_cons, List.not_mem_nil, or_false] at h
  rcases h with rfl | rfl | rfl | rfl | rfl
  · exact w_2_102
  · exact w_2_103
  · exact w_2_104
  · exact w_2_98
  · exact w_2_100
theorem inX9 : ∀ w ∈ u_ws RX9 TX9 5, w ∈ rk_c := by
  intro w h
  have h : w ∈ ([u_lay RX9 TX9 0, u_lay RX9 TX9 1, u_lay RX9 TX9 2, u_lay RX9 TX9 3, u_lay RX9 TX9 4] : List Cond) := h
  simp only [List.mem_cons, List.not_mem_nil, or_false] at h
  rcases h with rfl | rfl | rfl | rfl | rfl
  · exact w_1_157
  · exact w_1_159
  · exact w_1_161
  · exact w_1_163
  · exact w_1_165
theorem inX10 : ∀ w ∈ u_ws RX10 TX10 17, w ∈ rk_c := by
  intro w h
  have h : w ∈ ([u_lay RX10 TX10 0, u_lay RX10 TX10 1, u_lay RX10 TX10 2, u_lay RX10 TX10 3, u_lay RX10 TX10 4, u_lay RX10 TX10 5, u_lay RX10 TX10 6, u_lay RX10 TX10 7, u_lay RX10 TX10 8, u_lay RX10 TX10 9, u_lay RX10 TX10 10, u_lay RX10 TX10 11, u_lay RX10 TX10 12, u_lay RX10 TX10 13, u_lay RX10 TX10 14, u_lay RX10 TX10 15, u_lay RX10 TX10 16] : List Cond) := h
  simp only [List.mem_cons, List.not_mem_nil, or_false] at h
  rcases h with rfl | rfl | rfl | rfl | rfl | rfl | rfl | rfl | rfl | rfl | rfl | rfl | rfl | rfl | rfl | rfl | rfl
  · exact w_4_15
  · exact w_4_17
  · exact w_4_19
  · exact w_4_21
  · exact w_4_23
  · exact w_4_25
  · exact w_4_27
  · exact w_4_29
  · exact w_4_31
  · exact w_4_33
  · exact w_4_35
  · exact w_4_37
  · exact w_4_39
  · exact w_4_41
  · exact w_4_43
  · exact w_4_45
  · exact w_4_47
/-! ===== the walk's own rows, third: families, the pool, constructors, new arrays ===== -/
abbrev Fm : Type := Nat × Int32 × Int32 × Int64 × Int32 × Int32 × Int32 × Int32
def rk_fam (F : Fm) : va_E := match F.1 with
  | 0 => .inr (5, [.int F.2.1, .int F.2.2.1, .long F.2.2.2.1, .int F.2.2.2.2.1, .int F.2.2.2.2.2.1])
  | 1 => .inr (4, [.int F.2.1, .int F.2.2.1, .long F.2.2.2.1, .int F.2.2.2.2.1])
  | 2 => .inr (7, [.int F.2.1, .int F.2.2.1, .long F.2.2.2.1, .int F.2.2.2.2.1, .int F.2.2.2.2.2.1])
  | 3 => .inr (6, [.int F.2.1, .int F.2.2.1, .long F.2.2.2.1])
  | 4 => .inr (3, [.int F.2.1, .int F.2.2.1, .long F.2.2.2.1, .int F.2.2.2.2.1])
  | _ => .inr (1, [.int F.2.1, .int F.2.2.1, .long F.2.2.2.1, .int F.2.2.2.2.1, .int F.2.2.2.2.2.1, .int F.2.2.2.2.2.2.1, .int F.2.2.2.2.2.2.2])
theorem rk_fam_0 {F : Fm} (h : F.1 = 0) : rk_fam F = .inr (5, [.int F.2.1, .int F.2.2.1, .long F.2.2.2.1, .int F.2.2.2.2.1, .int F.2.2.2.2.2.1]) := by
  obtain ⟨k, F⟩ := F
  have h : k = 0 := h
  subst h
  rfl
theorem rk_fam_1 {F : Fm} (h : F.1 = 1) : rk_fam F = .inr (4, [.int F.2.1, .int F.2.2.1, .long F.2.2.2.1, .int F.2.2.2.2.1]) := by
  obtain ⟨k, F⟩ := F
  have h : k = 1 := h
  subst h
  rfl
theorem rk_fam_2 {F : Fm} (h : F.1 = 2) : rk_fam F = .inr (7, [.int F.2.1, .int F.2.2.1, .long F.2.2.2.1, .int F.2.2.2.2.1, .int F.2.2.2.2.2.1]) := by
  obtain ⟨k, F⟩ := F
  have h : k = 2 := h
  subst h
  rfl
theorem rk_fam_3 {F : Fm} (h : F.1 = 3) : rk_fam F = .inr (6, [.int F.2.1, .int F.2.2.1, .long F.2.2.2.1]) := by
  obtain ⟨k, F⟩ := F
  have h : k = 3 := h
  subst h
  rfl
theorem rk_fam_4 {F : Fm} (h : F.1 = 4) : rk_fam F = .inr (3, [.int F.2.1, .int F.2.2.1, .long F.2.2.2.1, .int F.2.2.2.2.1]) := by
  obtain ⟨k, F⟩ := F
  have h : k = 4 := h
  subst h
  rfl
theorem rk_fam_5 {F : Fm} (h0 : ¬ F.1 = 0) (h1 : ¬ F.1 = 1) (h2 : ¬ F.1 = 2) (h3 : ¬ F.1 = 3) (h4 : ¬ F.1 = 4) : rk_fam F = .inr (1, [.int F.2.1, .int F.2.2.1, .long F.2.2.2.1, .int F.2.2.2.2.1, .int F.2.2.2.2.2.1, .int F.2.2.2.2.2.2.1, .int F.2.2.2.2.2.2.2]) := by
  unfold rk_fam
  split <;> first | omega | rfl
theorem rk_fam_cases {P : va_E → Prop} (F : Fm) (h0 : F.1 = 0 → P (.inr (5, [.int F.2.1, .int F.2.2.1, .long F.2.2.2.1, .int F.2.2.2.2.1, .int F.2.2.2.2.2.1]))) (h1 : F.1 = 1 → P (.inr (4, [.int F.2.1, .int F.2.2.1, .long F.2.2.2.1, .int F.2.2.2.2.1]))) (h2 : F.1 = 2 → P (.inr (7, [.int F.2.1, .int F.2.2.1, .long F.2.2.2.1, .int F.2.2.2.2.1, .int F.2.2.2.2.2.1]))) (h3 : F.1 = 3 → P (.inr (6, [.int F.2.1, .int F.2.2.1, .long F.2.2.2.1]))) (h4 : F.1 = 4 → P (.inr (3, [.int F.2.1, .int F.2.2.1, .long F.2.2.2.1, .int F.2.2.2.2.1]))) (h5 : P (.inr (1, [.int F.2.1, .int F.2.2.1, .long F.2.2.2.1, .int F.2.2.2.2.1, .int F.2.2.2.2.2.1, .int F.2.2.2.2.2.2.1, .int F.2.2.2.2.2.2.2]))) : P (rk_fam F) := by
  by_cases k0 : F.1 = 0
  · rw [rk_fam_0 k0]; exact h0 k0
  by_cases k1 : F.1 = 1
  · rw [rk_fam_1 k1]; exact h1 k1
  by_cases k2 : F.1 = 2
  · rw [rk_fam_2 k2]; exact h2 k2
  by_cases k3 : F.1 = 3
  · rw [rk_fam_3 k3]; exact h3 k3
  by_cases k4 : F.1 = 4
  · rw [rk_fam_4 k4]; exact h4 k4
  rw [rk_fam_5 k0 k1 k2 k3 k4]; exact h5
def rk_pl (LP : List Nat) (FP : Nat → Fm) : va_W := va_pl LP (fun a => rk_fam (FP a))
def rk_pn (o : Option Fm) (a q : Nat) : Nat := match o with
  | none => a
  | some _ => q
def rk_nc (o : Option Fm) (q : Nat) : va_W := match o with
  | none => []
  | some F => [(q, rk_fam F)]
def rk_qs (l : List Nat) (i : Nat) : Nat := l.getD i 0
def rk_z32 : Nat → Int32 := fun _ => 0
def rk_z64 : Nat → Int64 := fun _ => 0
def rk_zO : Nat → Option Nat := fun _ => none
theorem rk_no {α : Type} {x : α} {P : Prop} (h : none = some x) : P := by cases h
theorem rk_en {α β : Type} {a : Option β} {f : α → Option β} {x : Option β} (h : Option.elim none a f = x) : a = x := h
theorem rk_es {α β : Type} {b : α} {a : Option β} {f : α → Option β} {x : Option β} (h : Option.elim (some b) a f = x) : f b = x := h
theorem rk_nz {v : Int32} (h : v &&& 1 = v) : narrow .boolean (.int v) = .int v := by
  simp only [narrow]
  first | (rw [h]; done) | (simp [h]; done) | exact congrArg Value.int h
theorem rk_nb0 : narrow .boolean (.int 0) = .int 0 := rk_nz (by decide)
theorem rk_nb1 : narrow .boolean (.int 1) = .int 1 := rk_nz (by decide)
theorem rk_ti {x : Int32} {k : Int32} (h : ¬ x = k) : x.toInt ≠ k.toInt := fun z => h (Int32.toInt_inj.mp z)
theorem rk_tb3 {x : Int32} (h0 : ¬ x = 0) (h1 : ¬ x = 1) (h2 : ¬ x = 2) : x.toInt < 0 ∨ 2 < x.toInt := by
  have a0 : x.toInt ≠ 0 := rk_ti h0
  have a1 : x.toInt ≠ 1 := rk_ti h1
  have a2 : x.toInt ≠ 2 := rk_ti h2
  omega
theorem rk_tb4 {x : Int32} (h0 : ¬ x = 0) (h1 : ¬ x = 1) (h2 : ¬ x = 2) (h3 : ¬ x = 3) : x.toInt < 0 ∨ 3 < x.toInt := by
  have a0 : x.toInt ≠ 0 := rk_ti h0
  have a1 : x.toInt ≠ 1 := rk_ti h1
  have a2 : x.toInt ≠ 2 := rk_ti h2
  have a3 : x.toInt ≠ 3 := rk_ti h3
  omega
theorem rk_tb5 {x : Int32} (h0 : ¬ x = 0) (h1 : ¬ x = 1) (h2 : ¬ x = 2) (h3 : ¬ x = 3) (h4 : ¬ x = 4) : x.toInt < 0 ∨ 4 < x.toInt := by
  have a0 : x.toInt ≠ 0 := rk_ti h0
  have a1 : x.toInt ≠ 1 := rk_ti h1
  have a2 : x.toInt ≠ 2 := rk_ti h2
  have a3 : x.toInt ≠ 3 := rk_ti h3
  have a4 : x.toInt ≠ 4 := rk_ti h4
  omega
theorem rk_lk2 {x : Int32} {a b d : Int} (h0 : ¬ x = 0) (h1 : ¬ x = 1) : Op.lookupswitch.offset [(0, a), (1, b)] d x.toInt = d := by
  have a0 : x.toInt ≠ 0 := rk_ti h0
  have a1 : x.toInt ≠ 1 := rk_ti h1
  rw [Op.lookupswitch.offset_cons, if_neg (fun z => a0 z.symm), Op.lookupswitch.offset_cons, if_neg (fun z => a1 z.symm), Op.lookupswitch.offset_nil]
theorem rk_nilP {D : va_G} {H : Heap} : va_P D vwCl [] H := fun k q h => by simp at h
theorem rk_oneP {D : va_G} {H : Heap} {q : Nat × va_E} (h : va_at D vwCl q H) : va_P D vwCl [q] H := fun k r hk => by
  cases k with
  | zero => cases hk; exact h
  | succ k => simp at hk
theorem rk_fcell {D : va_G} {H : Heap} {ws : va_W} {a : Nat} {F : Fm} {x : va_E} (hP : va_P D vwCl ws H) (k : Nat) (he : rk_fam F = x) (hk : ws[k]? = some (a, rk_fam F) := by rfl) : va_P D vwCl [(a, x)] H := rk_oneP (he ▸ hP k _ hk)
theorem rk_imp {D : va_G} {H0 : Heap} {LP : List Nat} {FP : Nat → Fm} {ro : va_W} {A : Nat → Prop} {a : Nat} (hm : a ∈ LP) (hPL : va_P D vwCl (rk_pl LP FP) H0) (hnl : ∀ (k : Nat) (q : Nat × va_E), (rk_pl LP FP)[k]? = some q → ¬ A q.1) (hR0 : va_P D vwCl ro H0) (hn : ∀ (k : Nat) (q : Nat × va_E), ro[k]? = some q → ¬ A q.1) :
    va_P D vwCl ((a, rk_fam (FP a)) :: ro) H0 ∧ ∀ (k : Nat) (q : Nat × va_E), ((a, rk_fam (FP a)) :: ro)[k]? = some q → ¬ A q.1 := by
  obtain ⟨j, hj⟩ := va_pl_get (X := []) (f := fun a => rk_fam (FP a)) hm
  constructor
  · intro k q hk
    cases k with
    | zero => cases hk; exact hPL j _ hj
    | succ k => exact hR0 k q hk
  · intro k q hk
    cases k with
    | zero => cases hk; exact hnl j _ hj
    | succ k => exact hn k q hk
theorem rk_gO {own C owner : String} {idx : Nat} {x y : MethodName} {cc : ByteArray} {maxL : Nat} {ret : Option FieldType} (h1 : Cond.methodLink own idx x ∈ rk_c) (h2 : Cond.sameMethod x.cls owner x.name x.desc ∈ rk_c) (h7 : Cond.instanceMethod ⟨owner, x.name, x.desc⟩ ∈ rk_c) (h3 : Cond.selects C x y ∈ rk_c) (h4 : Cond.instanceMethod y ∈ rk_c) (h6 : Cond.initialized y.cls ∈ rk_c) (h5 : Cond.code y cc maxL ret ∈ rk_c) : GoodIn rk_c (va_wsO own idx C owner x y (rk_w y cc maxL ret)) := fun w h => by
  rcases List.mem_append.mp h with h | h
  · simp only [List.mem_cons, List.not_mem_nil, or_false] at h
    rcases h with rfl | rfl | rfl | rfl | rfl | rfl
    · exact rk_goodc h1
    · exact rk_goodc h2
    · exact rk_goodc h7
    · exact rk_goodc h3
    · exact rk_goodc h4
    · exact rk_goodc h6
  · exact rk_gw h5 w h
def rk_Qve (D : va_G) (w1 : (Nat → Nat) → va_W) (wc : va_W) (sz : Nat) : Array Value → State → Outcome → State → Prop := va_Qv (fun (_ : Nat → Nat) => True) (fun q t => va_P D vwCl (w1 q) t.heap ∧ va_D (va_A wc sz) (w1 q)) (va_A wc sz)
def rk_Qie (v : Int32) (D : va_G) (w1 : (Nat → Nat) → va_W) (wc : va_W) (sz : Nat) : Array Value → State → Outcome → State → Prop := va_Qi (fun r (_ : Nat → Nat) => r = v) (fun q t => va_P D vwCl (w1 q) t.heap ∧ va_D (va_A wc sz) (w1 q)) (va_A wc sz)
section RKM3
variable {l : Launch} {y : MethodName} {cc : ByteArray} {maxL : Nat} {rm : Room} {D : va_G} {TY : List (ClassId × FieldType)} {RW RO PL : va_W} {av : List Value} {sz mc ms : Nat} {X : Type} {g : Option X} {x0 : X}
theorem rk_metve (hg : g = some x0) (w1 : X → (Nat → Nat) → va_W) (hy : plainName y.cls = true) (hlen : (lg_sl av).length ≤ maxL)
    (body : ∀ (p : Program) (e : Env) (s : State) (m : MethodId) (args : Array Value) (below : List Frame) (meth : Method) (c : Code) (A : Nat → Prop) (ls : Array Slot) (Q : State → Prop), (∀ (x : X) (q : Nat → Nat) (H : Heap) (locs : List Loc) (pc : Nat) (ls : Array Slot), some x = some x0 → decode cc pc = .ok (.return_, 1) → va_P D vwCl (w1 x q) H → va_D A (w1 x q) → va_S A s.heap H locs → W p l e rm s m args below meth c H locs mc ms Q (F0 m pc ls [])) → meth.name = y.name → CallFix p m c cc maxL s args rk_c y.cls → va_P D vwCl RW s.heap → va_D A RW → (∀ q : Nat, s.heap.size ≤ q → A q) → rk_V D TY s → va_P D vwCl RO s.heap → (∀ (k : Nat) (q : Nat × va_E), RO[k]? = some q → ¬ A q.1) → va_P D vwCl PL s.heap → (∀ (k : Nat) (q : Nat × va_E), PL[k]? = some q → ¬ A q.1) → lv_has ls maxL (lv_args 0 av) → g = some x0 → va_S A s.heap s.heap [] →
      W p l e rm s m args below meth c s.heap [] 0 0 Q (F0 m 0 ls [])) :
    Met l y (rk_w y cc maxL none) rm (va_Pc av (rk_B D TY RW RO PL sz)) (rk_Qve D (w1 x0) RW sz) mc ms (va_A RW sz) := by
  refine rk_met hy hlen ?_
  intro p e s m args below meth c A ls hAe hr hlocks hname hF hP hD hA hV hR hn hPL hnl hl
  refine body p e s m args below meth c A ls _ ?_ hname hF hP hD hA hV hR hn hPL hnl hl hg va_S.rf
  intro x q H locs pc ls hx hdg hP hD hS
  cases hx
  subst hAe
  exact W.vret hF.1 hF.2.1 hr (fun t ht hW => ⟨⟨q, rfl, trivial, by rw [ht]; exact hP, hD⟩, hS.F ht⟩) hS.2.2 hdg hlocks
theorem rk_metie (hg : g = some x0) (v : X → Int32) (w1 : X → (Nat → Nat) → va_W) (hy : plainName y.cls = true) (hlen : (lg_sl av).length ≤ maxL)
    (body : ∀ (p : Program) (e : Env) (s : State) (m : MethodId) (args : Array Value) (below : List Frame) (meth : Method) (c : Code) (A : Nat → Prop) (ls : Array Slot) (Q : State → Prop), (∀ (x : X) (q : Nat → Nat) (H : Heap) (locs : List Loc) (pc : Nat) (ls : Array Slot), some x = some x0 → decode cc pc = .ok (.ireturn, 1) → va_P D vwCl (w1 x q) H → va_D A (w1 x q) → va_S A s.heap H locs → W p l e rm s m args below meth c H locs mc ms Q (F0 m pc ls [.int (v x)])) → meth.name = y.name → CallFix p m c cc maxL s args rk_c y.cls → va_P D vwCl RW s.heap → va_D A RW → (∀ q : Nat, s.heap.size ≤ q → A q) → rk_V D TY s → va_P D vwCl RO s.heap → (∀ (k : Nat) (q : Nat × va_E), RO[k]? = some q → ¬ A q.1) → va_P D vwCl PL s.heap → (∀ (k : Nat) (q : Nat × va_E), PL[k]? = some q → ¬ A q.1) → lv_has ls maxL (lv_args 0 av) → g = some x0 → va_S A s.heap s.heap [] →
      W p l e rm s m args below meth c s.heap [] 0 0 Q (F0 m 0 ls [])) :
    Met l y (rk_w y cc maxL (some .int)) rm (va_Pc av (rk_B D TY RW RO PL sz)) (rk_Qie (v x0) D (w1 x0) RW sz) mc ms (va_A RW sz) := by
  refine rk_met hy hlen ?_
  intro p e s m args below meth c A ls hAe hr hlocks hname hF hP hD hA hV hR hn hPL hnl hl
  refine body p e s m args below meth c A ls _ ?_ hname hF hP hD hA hV hR hn hPL hnl hl hg va_S.rf
  intro x q H locs pc ls hx hdg hP hD hS
  cases hx
  subst hAe
  exact W.iret hF.1 hF.2.1 hr (fun t ht hW => ⟨⟨_, q, rfl, rfl, by rw [ht]; exact hP, hD⟩, hS.F ht⟩) hS.2.2 hdg hlocks
end RKM3
section RKC3
variable {p : Program} {l : Launch} {e : Env} {R : Room} {s : State} {m : MethodId} {args : Array Value} {below : List Frame} {meth : Method} {c : Code} {H H0 : Heap} {locs : List Loc} {cells slots : Nat} {Q : State → Prop} {D : va_G} {TY : List (ClassId × FieldType)} {ws ro PL wc rc wr : va_W} {A : Nat → Prop} {av : List Value} {pc mc ms : Nat} {ls : Array Slot} {st0 rest : List Value} {a : Array Value} {cc : ByteArray}
theorem rk_ve {w1 : (Nat → Nat) → va_W} (hr : va_Run p l e R s m args below meth c H locs cells slots mc ms (F0 m pc ls st0) rest (rk_Qve D w1 wc H.size a) (va_A wc H.size)) (hP : va_P D vwCl ws H) (hD : va_D A ws) (hS : va_S A H0 H locs) (hA : ∀ q : Nat, H0.size ≤ q → A q) (hR0 : va_P D vwCl ro H0) (hn : ∀ (k : Nat) (q : Nat × va_E), ro[k]? = some q → ¬ A q.1) (isC isR : List Nat) (hC : isC.map (fun i => ws[i]?) = wc.map some) (hr2 : isR.map (fun i => ws[i]?) = wr.map some) (hnd : va_nd isR = true) (hdis : ∀ i ∈ isR, i ∉ isC)
    (kk : ∀ (q : Nat → Nat) (H1 : Heap) (locs1 : List Loc), va_P D vwCl (wr ++ w1 q) H1 → va_D A (wr ++ w1 q) → va_S A H0 H1 locs1 → va_P D vwCl ro H1 → W p l e R s m args below meth c H1 locs1 (cells + mc) (slots + ms) Q (F0 m (pc + 3) ls rest)) : W p l e R s m args below meth c H locs cells slots Q (F0 m pc ls st0) := by
  have hFc := va_free hD hS hA isC hC
  refine va_callv hr hS (fun q _ h => hFc q h) hFc (fun q t H1 locs ht hvm hw hB hz1 hk1 hS => ?_)
  obtain ⟨hP1, hD1⟩ := hB
  rw [ht] at hP1
  obtain ⟨hP, hD⟩ := va_join hP hD isC isR hC hr2 hnd hdis hk1 hFc hP1 hD1
  exact kk q H1 locs hP hD hS (rk_keep hR0 hn hS)
theorem rk_newI {cI cJ cO : ClassId} {n : Int32} {N : Nat} (hexec : p.tables.exec = Jvm.exec) (hb : c.code = cc) (harr : (Cond.arrayClass .int).before args s = true) (hV : rk_V D (rk_TY cI cJ cO) s) (hP : va_P D vwCl ws H) (hD : va_D A ws) (hS : va_S A H0 H locs) (hA : ∀ q, H0.size ≤ q → A q) (hNN : n = Int32.ofNat N) (hn : ¬ n < 0) (hN : n.toNatClampNeg = N) (hbytes : N * componentBytes .int ≤ 536870912) (hcells : cells + 1 ≤ R.cells) (hslots : slots + N ≤ R.slots) (hdg : decode cc pc = .ok (.newarray .int, 2))
    (kk : ∀ (q : Nat) (H1 : Heap), va_P D vwCl (ws ++ [(q, .inl (cI, N, .inl rk_z32))]) H1 → va_D A (ws ++ [(q, .inl (cI, N, .inl rk_z32))]) → va_S A H0 H1 locs → W p l e R s m args below meth c H1 locs (cells + 1) (slots + N) Q (F0 m (pc + 2) ls (.ref q :: rest))) : W p l e R s m args below meth c H locs cells slots Q (F0 m pc ls (.int n :: rest)) := by
  refine va_newa (atype := .int) (ty := .int) (a0 := (N, .inl rk_z32)) hexec hb harr rfl hV.1 hP hD hS hA (fun cA => rfl) hn hN hbytes hcells hslots hdg (fun q cA H1 hK hP hD hS => ?_)
  have e : cA = cI := Option.some.inj ((va_nm_int (hK.2 3 _ rfl).2).symm.trans (va_nm_int (hV.1.2 0 _ rfl).2))
  subst e
  exact kk q H1 hP hD hS
theorem rk_newJ {cI cJ cO : ClassId} {n : Int32} {N : Nat} (hexec : p.tables.exec = Jvm.exec) (hb : c.code = cc) (harr : (Cond.arrayClass .long).before args s = true) (hV : rk_V D (rk_TY cI cJ cO) s) (hP : va_P D vwCl ws H) (hD : va_D A ws) (hS : va_S A H0 H locs) (hA : ∀ q, H0.size ≤ q → A q) (hNN : n = Int32.ofNat N) (hn : ¬ n < 0) (hN : n.toNatClampNeg = N) (hbytes : N * componentBytes .long ≤ 536870912) (hcells : cells + 1 ≤ R.cells) (hslots : slots + N ≤ R.slots) (hdg : decode cc pc = .ok (.newarray .long, 2))
    (kk : ∀ (q : Nat) (H1 : Heap), va_P D vwCl (ws ++ [(q, .inl (cJ, N, .inr (.inl rk_z64)))]) H1 → va_D A (ws ++ [(q, .inl (cJ, N, .inr (.inl rk_z64)))]) → va_S A H0 H1 locs → W p l e R s m args below meth c H1 locs (cells + 1) (slots + N) Q (F0 m (pc + 2) ls (.ref q :: rest))) : W p l e R s m args below meth c H locs cells slots Q (F0 m pc ls (.int n :: rest)) := by
  refine va_newa (atype := .long) (ty := .long) (a0 := (N, .inr (.inl rk_z64))) hexec hb harr rfl hV.1 hP hD hS hA (fun cA => rfl) hn hN hbytes hcells hslots hdg (fun q cA H1 hK hP hD hS => ?_)
  have e : cA = cJ := Option.some.inj ((va_nm_long (hK.2 3 _ rfl).2).symm.trans (va_nm_long (hV.1.2 1 _ rfl).2))
  subst e
  exact kk q H1 hP hD hS
theorem rk_newO {cI cJ cO : ClassId} {n : Int32} {N : Nat} {own : String} {index : Nat} (hexec : p.tables.exec = Jvm.exec) (hb : c.code = cc) (hown : s.vm.findClass own = some m.cls) (hcl : (Cond.classLink own index "EnumerativeCoder$Family").before args s = true) (hV : rk_V D (rk_TY cI cJ cO) s) (hP : va_P D vwCl ws H) (hD : va_D A ws) (hS : va_S A H0 H locs) (hA : ∀ q, H0.size ≤ q → A q) (hNN : n = Int32.ofNat N) (hn : ¬ n < 0) (hN : n.toNatClampNeg = N) (hbytes : N * 4 ≤ 536870912) (hcells : cells + 1 ≤ R.cells) (hslots : slots + N ≤ R.slots) (hdg : decode cc pc = .ok (.anewarray index, 3))
    (kk : ∀ (q : Nat) (H1 : Heap), va_P D vwCl (ws ++ [(q, .inl (cO, N, .inr (.inr (.inr (.inr rk_zO)))))]) H1 → va_D A (ws ++ [(q, .inl (cO, N, .inr (.inr (.inr (.inr rk_zO)))))]) → va_S A H0 H1 locs → W p l e R s m args below meth c H1 locs (cells + 1) (slots + N) Q (F0 m (pc + 3) ls (.ref q :: rest))) : W p l e R s m args below meth c H locs cells slots Q (F0 m pc ls (.int n :: rest)) := by
  refine va_newq hexec hb hown hcl hV.2.2 hV.1 hP hD hS hA hn hN hbytes hcells hslots hdg (fun q cA H1 hK hP hD hS => ?_)
  obtain ⟨-, -, -, -, -, e1⟩ := (hK.2 3 _ rfl).2
  obtain ⟨-, -, -, -, -, e2⟩ := (hV.1.2 2 _ rfl).2
  have e : cA = cO := Option.some.inj (e1.symm.trans e2)
  subst e
  exact kk q H1 hP hD hS
variable {own : String} {index : Nat} {b : Nat} {F : Fm}
theorem rk_fget_number (hexec : p.tables.exec = Jvm.exec) (hb : c.code = cc) (hts : ∀ w ∈ rk_c, w.before args s = true) (hown : s.vm.findClass own = some m.cls) (hK : va_K D vwCl TY s) (hP : va_P D vwCl ws H) (q0 : Nat) (he : ws[q0]? = some (b, rk_fam F)) (hlink : (Cond.fieldLink own index "EnumerativeCoder$Family" "number" "I").before args s = true) (hdg : decode cc pc = .ok (.getfield index, 3))
    (kk : W p l e R s m args below meth c H locs cells slots Q (F0 m (pc + 3) ls (.int F.2.1 :: rest))) : W p l e R s m args below meth c H locs cells slots Q (F0 m pc ls (.ref b :: rest)) := by
  have hP1 : va_P D vwCl [(b, rk_fam F)] H := rk_oneP (hP q0 _ he)
  revert hP1
  refine rk_fam_cases (P := fun x => va_P D vwCl [(b, x)] H → _) F ?_ ?_ ?_ ?_ ?_ ?_
  · exact fun _ hP1 => va_get (D := D) (ci := 5) (v := .int F.2.1) (C := RX6) (T := TX6) (N := 5) hexec hb hts inX6 hown hK hP1 0 rfl rfl 0 (by decide) hlink (fun _ h9 => h9) rfl hdg kk
  · exact fun _ hP1 => va_get (D := D) (ci := 4) (v := .int F.2.1) (C := RX5) (T := TX5) (N := 4) hexec hb hts inX5 hown hK hP1 0 rfl rfl 0 (by decide) hlink (fun _ h9 => h9) rfl hdg kk
  · exact fun _ hP1 => va_get (D := D) (ci := 7) (v := .int F.2.1) (C := RX8) (T := TX8) (N := 5) hexec hb hts inX8 hown hK hP1 0 rfl rfl 0 (by decide) hlink (fun _ h9 => h9) rfl hdg kk
  · exact fun _ hP1 => va_get (D := D) (ci := 6) (v := .int F.2.1) (C := RX7) (T := TX7) (N := 3) hexec hb hts inX7 hown hK hP1 0 rfl rfl 0 (by decide) hlink (fun _ h9 => h9) rfl hdg kk
  · exact fun _ hP1 => va_get (D := D) (ci := 3) (v := .int F.2.1) (C := RX4) (T := TX4) (N := 4) hexec hb hts inX4 hown hK hP1 0 rfl rfl 0 (by decide) hlink (fun _ h9 => h9) rfl hdg kk
  · exact fun hP1 => va_get (D := D) (ci := 1) (v := .int F.2.1) (C := RX1) (T := TX1) (N := 7) hexec hb hts inX1 hown hK hP1 0 rfl rfl 0 (by decide) hlink (fun _ h9 => h9) rfl hdg kk
theorem rk_fget_width (hexec : p.tables.exec = Jvm.exec) (hb : c.code = cc) (hts : ∀ w ∈ rk_c, w.before args s = true) (hown : s.vm.findClass own = some m.cls) (hK : va_K D vwCl TY s) (hP : va_P D vwCl ws H) (q0 : Nat) (he : ws[q0]? = some (b, rk_fam F)) (hlink : (Cond.fieldLink own index "EnumerativeCoder$Family" "width" "I").before args s = true) (hdg : decode cc pc = .ok (.getfield index, 3))
    (kk : W p l e R s m args below meth c H locs cells slots Q (F0 m (pc + 3) ls (.int F.2.2.1 :: rest))) : W p l e R s m args below meth c H locs cells slots Q (F0 m pc ls (.ref b :: rest)) := by
  have hP1 : va_P D vwCl [(b, rk_fam F)] H := rk_oneP (hP q0 _ he)
  revert hP1
  refine rk_fam_cases (P := fun x => va_P D vwCl [(b, x)] H → _) F ?_ ?_ ?_ ?_ ?_ ?_
  · exact fun _ hP1 => va_get (D := D) (ci := 5) (v := .int F.2.2.1) (C := RX6) (T := TX6) (N := 5) hexec hb hts inX6 hown hK hP1 0 rfl rfl 1 (by decide) hlink (fun _ h9 => h9) rfl hdg kk
  · exact fun _ hP1 => va_get (D := D) (ci := 4) (v := .int F.2.2.1) (C := RX5) (T := TX5) (N := 4) hexec hb hts inX5 hown hK hP1 0 rfl rfl 1 (by decide) hlink (fun _ h9 => h9) rfl hdg kk
  · exact fun _ hP1 => va_get (D := D) (ci := 7) (v := .int F.2.2.1) (C := RX8) (T := TX8) (N := 5) hexec hb hts inX8 hown hK hP1 0 rfl rfl 1 (by decide) hlink (fun _ h9 => h9) rfl hdg kk
  · exact fun _ hP1 => va_get (D := D) (ci := 6) (v := .int F.2.2.1) (C := RX7) (T := TX7) (N := 3) hexec hb hts inX7 hown hK hP1 0 rfl rfl 1 (by decide) hlink (fun _ h9 => h9) rfl hdg kk
  · exact fun _ hP1 => va_get (D := D) (ci := 3) (v := .int F.2.2.1) (C := RX4) (T := TX4) (N := 4) hexec hb hts inX4 hown hK hP1 0 rfl rfl 1 (by decide) hlink (fun _ h9 => h9) rfl hdg kk
  · exact fun hP1 => va_get (D := D) (ci := 1) (v := .int F.2.2.1) (C := RX1) (T := TX1) (N := 7) hexec hb hts inX1 hown hK hP1 0 rfl rfl 1 (by decide) hlink (fun _ h9 => h9) rfl hdg kk
theorem rk_fget_size (hexec : p.tables.exec = Jvm.exec) (hb : c.code = cc) (hts : ∀ w ∈ rk_c, w.before args s = true) (hown : s.vm.findClass own = some m.cls) (hK : va_K D vwCl TY s) (hP : va_P D vwCl ws H) (q0 : Nat) (he : ws[q0]? = some (b, rk_fam F)) (hlink : (Cond.fieldLink own index "EnumerativeCoder$Family" "size" "J").before args s = true) (hdg : decode cc pc = .ok (.getfield index, 3))
    (kk : W p l e R s m args below meth c H locs cells slots Q (F0 m (pc + 3) ls (.long F.2.2.2.1 :: rest))) : W p l e R s m args below meth c H locs cells slots Q (F0 m pc ls (.ref b :: rest)) := by
  have hP1 : va_P D vwCl [(b, rk_fam F)] H := rk_oneP (hP q0 _ he)
  revert hP1
  refine rk_fam_cases (P := fun x => va_P D vwCl [(b, x)] H → _) F ?_ ?_ ?_ ?_ ?_ ?_
  · exact fun _ hP1 => va_get (D := D) (ci := 5) (v := .long F.2.2.2.1) (C := RX6) (T := TX6) (N := 5) hexec hb hts inX6 hown hK hP1 0 rfl rfl 2 (by decide) hlink (fun _ h9 => h9) rfl hdg kk
  · exact fun _ hP1 => va_get (D := D) (ci := 4) (v := .long F.2.2.2.1) (C := RX5) (T := TX5) (N := 4) hexec hb hts inX5 hown hK hP1 0 rfl rfl 2 (by decide) hlink (fun _ h9 => h9) rfl hdg kk
  · exact fun _ hP1 => va_get (D := D) (ci := 7) (v := .long F.2.2.2.1) (C := RX8) (T := TX8) (N := 5) hexec hb hts inX8 hown hK hP1 0 rfl rfl 2 (by decide) hlink (fun _ h9 => h9) rfl hdg kk
  · exact fun _ hP1 => va_get (D := D) (ci := 6) (v := .long F.2.2.2.1) (C := RX7) (T := TX7) (N := 3) hexec hb hts inX7 hown hK hP1 0 rfl rfl 2 (by decide) hlink (fun _ h9 => h9) rfl hdg kk
  · exact fun _ hP1 => va_get (D := D) (ci := 3) (v := .long F.2.2.2.1) (C := RX4) (T := TX4) (N := 4) hexec hb hts inX4 hown hK hP1 0 rfl rfl 2 (by decide) hlink (fun _ h9 => h9) rfl hdg kk
  · exact fun hP1 => va_get (D := D) (ci := 1) (v := .long F.2.2.2.1) (C := RX1) (T := TX1) (N := 7) hexec hb hts inX1 hown hK hP1 0 rfl rfl 2 (by decide) hlink (fun _ h9 => h9) rfl hdg kk
theorem rk_castu {C : String} {a0 : Nat} (hN : ∀ w ∈ rk_NW, va_Nw w s) (hw : Cond.castable C "EnumerativeCoder$Family" ∈ rk_NW) : ∀ comp c0 : ClassId, s.vm.findClass "EnumerativeCoder$Family" = some comp → s.vm.findClass C = some c0 → s.vm.assignable c0 comp = true := by
  intro comp c0 h1 h2
  obtain ⟨c1, t1, f1, f2, f3⟩ := Cond.castable_spec (va_Nw.use (A := #[]) rfl (hN _ hw))
  cases h1.symm.trans f2
  cases h2.symm.trans f1
  exact f3
theorem rk_any (hV : rk_V D TY s) (hP : va_P D vwCl ws H) (q0 : Nat) (he : ws[q0]? = some (b, rk_fam F)) : va_Any "EnumerativeCoder$Family" s H b := by
  have hP1 : va_P D vwCl [(b, rk_fam F)] H := rk_oneP (hP q0 _ he)
  revert hP1
  refine rk_fam_cases (P := fun x => va_P D vwCl [(b, x)] H → _) F ?_ ?_ ?_ ?_ ?_ ?_
  · exact fun _ hP1 => va_rAny (q0 := 0) (ci := 5) (r := (RX6, TX6, 5)) hV.1 hP1 rfl rfl (rk_castu (a0 := 0) hV.2.1 nw_5_128)
  · exact fun _ hP1 => va_rAny (q0 := 0) (ci := 4) (r := (RX5, TX5, 4)) hV.1 hP1 rfl rfl (rk_castu (a0 := 0) hV.2.1 nw_5_129)
  · exact fun _ hP1 => va_rAny (q0 := 0) (ci := 7) (r := (RX8, TX8, 5)) hV.1 hP1 rfl rfl (rk_castu (a0 := 0) hV.2.1 nw_5_130)
  · exact fun _ hP1 => va_rAny (q0 := 0) (ci := 6) (r := (RX7, TX7, 3)) hV.1 hP1 rfl rfl (rk_castu (a0 := 0) hV.2.1 nw_5_131)
  · exact fun _ hP1 => va_rAny (q0 := 0) (ci := 3) (r := (RX4, TX4, 4)) hV.1 hP1 rfl rfl (rk_castu (a0 := 0) hV.2.1 nw_5_132)
  · exact fun hP1 => va_rAny (q0 := 0) (ci := 1) (r := (RX1, TX1, 7)) hV.1 hP1 rfl rfl (rk_castu (a0 := 0) hV.2.1 nw_5_133)
end RKC3
