/-! ===== the walk's own rows: one word list for all methods, contracts over a written world RW, a read world RO and a pool PL ===== -/
def rk_c : List Cond := lw_tbl.filter goodWord
def rk_isN : Cond → Bool
  | .methodLinkNest _ _ _ _ => true
  | .fieldLinkNest _ _ _ _ _ _ => true
  | .castable _ _ => true
  | .declares _ => true
  | _ => false
def rk_NW : List Cond := tables_1.filter rk_isN
abbrev rk_w (y : MethodName) (cc : ByteArray) (maxL : Nat) (ret : Option FieldType) : List Cond := Cond.code y cc maxL ret :: rk_c
theorem rk_in {w : Cond} (h : w ∈ tables_1) (g : goodWord w = true) : w ∈ rk_c := List.mem_filter.mpr ⟨List.mem_append_right _ h, g⟩
theorem rk_inP {w : Cond} (h : w ∈ k2_sels lw_privs) (g : goodWord w = true) : w ∈ rk_c := List.mem_filter.mpr ⟨List.mem_append_left _ h, g⟩
theorem rk_inN {w : Cond} (h : w ∈ tables_1) (g : rk_isN w = true) : w ∈ rk_NW := List.mem_filter.mpr ⟨h, g⟩
theorem rk_t1 {w : Cond} (h : w ∈ tables_1_1) : w ∈ tables_1 := List.mem_append_left _ h
theorem rk_t2 {w : Cond} (h : w ∈ tables_1_2) : w ∈ tables_1 := List.mem_append_right _ (List.mem_append_left _ h)
theorem rk_t3 {w : Cond} (h : w ∈ tables_1_3) : w ∈ tables_1 := List.mem_append_right _ (List.mem_append_right _ (List.mem_append_left _ h))
theorem rk_t4 {w : Cond} (h : w ∈ tables_1_4) : w ∈ tables_1 := List.mem_append_right _ (List.mem_append_right _ (List.mem_append_right _ (List.mem_append_left _ h)))
theorem rk_t5 {w : Cond} (h : w ∈ tables_1_5) : w ∈ tables_1 := List.mem_append_right _ (List.mem_append_right _ (List.mem_append_right _ (List.mem_append_right _ h)))
theorem rk_goodc {w : Cond} (h : w ∈ rk_c) : w ∈ rk_c ∧ ((w.onTables && w.keeps) = true ∨ ∃ ty, w = .arrayClass ty) := ⟨h, good_of_word (List.mem_filter.mp h).2⟩
theorem rk_gw {y : MethodName} {cc : ByteArray} {maxL : Nat} {ret : Option FieldType} (h5 : Cond.code y cc maxL ret ∈ rk_c) : GoodIn rk_c (rk_w y cc maxL ret) := fun w h => by
  rcases List.mem_cons.mp h with rfl | h
  · exact rk_goodc h5
  · exact rk_goodc h
theorem rk_gV {own C : String} {idx : Nat} {y : MethodName} {cc : ByteArray} {maxL : Nat} {ret : Option FieldType} (h1 : Cond.methodLink own idx y ∈ rk_c) (h2 : Cond.instanceMethod y ∈ rk_c) (h3 : Cond.selects C y y ∈ rk_c) (h4 : Cond.initialized C ∈ rk_c) (h5 : Cond.code y cc maxL ret ∈ rk_c) : GoodIn rk_c (wsV own idx C y (rk_w y cc maxL ret)) := fun w h => by
  rcases List.mem_append.mp h with h | h
  · simp only [List.mem_cons, List.not_mem_nil, or_false] at h
    rcases h with rfl | rfl | rfl | rfl
    · exact rk_goodc h1
    · exact rk_goodc h2
    · exact rk_goodc h3
    · exact rk_goodc h4
  · exact rk_gw h5 w h
theorem rk_gS {own : String} {idx : Nat} {y : MethodName} {cc : ByteArray} {maxL : Nat} {ret : Option FieldType} (h1 : Cond.methodLink own idx y ∈ rk_c) (h2 : Cond.static y ∈ rk_c) (h3 : Cond.initialized own ∈ rk_c) (h5 : Cond.code y cc maxL ret ∈ rk_c) : GoodIn rk_c (wsS own idx y (rk_w y cc maxL ret)) := fun w h => by
  rcases List.mem_append.mp h with h | h
  · simp only [List.mem_cons, List.not_mem_nil, or_false] at h
    rcases h with rfl | rfl | rfl
    · exact rk_goodc h1
    · exact rk_goodc h2
    · exact rk_goodc h3
  · exact rk_gw h5 w h
theorem rk_gVS {own : String} {idx : Nat} {y : MethodName} {cc : ByteArray} {maxL : Nat} {ret : Option FieldType} (h1 : Cond.methodLink own idx y ∈ rk_c) (h2 : Cond.static y ∈ rk_c) (h3 : Cond.initialized y.cls ∈ rk_c) (h5 : Cond.code y cc maxL ret ∈ rk_c) : GoodIn rk_c (va_wsS own idx y (rk_w y cc maxL ret)) := fun w h => by
  rcases List.mem_append.mp h with h | h
  · simp only [List.mem_cons, List.not_mem_nil, or_false] at h
    rcases h with rfl | rfl | rfl
    · exact rk_goodc h1
    · exact rk_goodc h2
    · exact rk_goodc h3
  · exact rk_gw h5 w h
theorem rk_gU {own C owner : String} {idx : Nat} {x y : MethodName} {cc : ByteArray} {maxL : Nat} {ret : Option FieldType} (h1 : Cond.methodLink own idx x ∈ rk_c) (h2 : Cond.sameMethod x.cls owner x.name x.desc ∈ rk_c) (h3 : Cond.selects C x y ∈ rk_c) (h4 : Cond.instanceMethod y ∈ rk_c) (h6 : Cond.initialized y.cls ∈ rk_c) (h5 : Cond.code y cc maxL ret ∈ rk_c) : GoodIn rk_c (va_wsU own idx C owner x y (rk_w y cc maxL ret)) := fun w h => by
  rcases List.mem_append.mp h with h | h
  · simp only [List.mem_cons, List.not_mem_nil, or_false] at h
    rcases h with rfl | rfl | rfl | rfl | rfl
    · exact rk_goodc h1
    · exact rk_goodc h2
    · exact rk_goodc h3
    · exact rk_goodc h4
    · exact rk_goodc h6
  · exact rk_gw h5 w h
/-- what the tables say, as a fact of a state -/
def rk_V (D : va_G) (TY : List (ClassId × FieldType)) (U : State) : Prop := va_K D vwCl TY U ∧ (∀ w ∈ rk_NW, va_Nw w U) ∧ va_AO "EnumerativeCoder$Family" U
theorem rk_isN_tab {w : Cond} (h : rk_isN w = true) : w.onTables = true := by
  cases w <;> first | rfl | (simp [rk_isN] at h; done)
theorem rk_isN_warm {w : Cond} (h : rk_isN w = true) {s U : State} (hW : s.WarmedH U.vm) (hZ : va_Nw w s) : va_Nw w U := by
  cases w with
  | methodLinkNest a i x h => exact va_Nw.warmM hW hZ
  | fieldLinkNest a i b n d h => exact va_Nw.warmF hW hZ
  | castable a b => exact va_Nw.warmC hW hZ
  | declares x => exact va_Nw.warmD hW hZ
  | _ => simp [rk_isN] at h
theorem rk_V.warm {D : va_G} {TY : List (ClassId × FieldType)} {s U : State} (hW : s.WarmedH U.vm) (h : rk_V D TY s) : rk_V D TY U :=
  ⟨va_K.moved hW.alike h.1, fun w hw => rk_isN_warm (List.mem_filter.mp hw).2 hW (h.2.1 w hw), va_AO.moved hW.alike h.2.2⟩
theorem rk_V.same {D : va_G} {TY : List (ClassId × FieldType)} {s U : State} (e : s.vm = U.vm) (h : rk_V D TY s) : rk_V D TY U :=
  ⟨va_K.moved (by rw [← e]; exact Vm.Alike.refl s.vm) h.1, fun w hw => va_Nw.same (rk_isN_tab (List.mem_filter.mp hw).2) e (h.2.1 w hw), va_AO.moved (by rw [← e]; exact Vm.Alike.refl s.vm) h.2.2⟩
abbrev rk_TY (cI cJ cO : ClassId) : List (ClassId × FieldType) := [(cI, .int), (cJ, .long), (cO, .object "EnumerativeCoder$Family")]
def rk_ap (wc rc : va_W) : Prop := ∀ (k : Nat) (q : Nat × va_E), rc[k]? = some q → ∀ (j : Nat) (p : Nat × va_E), wc[j]? = some p → p.1 ≠ q.1
def rk_B (D : va_G) (TY : List (ClassId × FieldType)) (RW RO PL : va_W) (sz : Nat) : State → Prop := fun U => U.heap.size = sz ∧ va_P D vwCl RW U.heap ∧ va_D (fun _ => True) RW ∧ va_P D vwCl RO U.heap ∧ rk_ap RW RO ∧ va_P D vwCl PL U.heap ∧ rk_ap RW PL ∧ rk_V D TY U
theorem rk_keep {D : va_G} {cl : List vw_C} {ro : va_W} {A : Nat → Prop} {H0 H : Heap} {locs : List Loc} (h : va_P D cl ro H0) (hn : ∀ (k : Nat) (q : Nat × va_E), ro[k]? = some q → ¬ A q.1) (hS : va_S A H0 H locs) : va_P D cl ro H :=
  h.kept (fun k q hk => hS.2.1 q.1 ((h k q hk).lt) (hn k q hk))
theorem rk_apn {wc rc : va_W} {sz : Nat} (h : rk_ap wc rc) (hl : ∀ (k : Nat) (q : Nat × va_E), rc[k]? = some q → q.1 < sz) : ∀ (k : Nat) (q : Nat × va_E), rc[k]? = some q → ¬ va_A wc sz q.1 := by
  intro k q hk hA
  rcases hA with ⟨j, e, hj⟩ | hA
  · exact h k q hk j _ hj rfl
  · have := hl k q hk; omega
theorem rk_if {α : Type} {c : Prop} [Decidable c] {a b x : Option α} (hc : c) (h : (if c then a else b) = x) : a = x := by rw [if_pos hc] at h; exact h
theorem rk_nif {α : Type} {c : Prop} [Decidable c] {a b x : Option α} (hc : ¬ c) (h : (if c then a else b) = x) : b = x := by rw [if_neg hc] at h; exact h
theorem rk_nnif {α : Type} {c : Prop} [Decidable c] {a b x : Option α} (hc : c) (h : (if ¬ c then a else b) = x) : b = x := by rw [if_neg (fun z => z hc)] at h; exact h
theorem rk_gd {α : Type} {c : Prop} [Decidable c] {a : Option α} {x : α} (h : (if c then none else a) = some x) : ¬ c ∧ a = some x := by
  by_cases hc : c
  · rw [if_pos hc] at h; cases h
  · rw [if_neg hc] at h; exact ⟨hc, h⟩
theorem rk_gp {α : Type} {c : Prop} [Decidable c] {a : Option α} {x : α} (h : (if c then a else none) = some x) : c ∧ a = some x := by
  by_cases hc : c
  · rw [if_pos hc] at h; exact ⟨hc, h⟩
  · rw [if_neg hc] at h; cases h
theorem rk_bd {α β : Type} {a : Option α} {f : α → Option β} {x : β} (h : a.bind f = some x) : ∃ y, a = some y ∧ f y = some x := Option.bind_eq_some_iff.mp h
/-- the loops' fuel: a number that the kernel doesn't unfold -/
noncomputable def FU : Nat := Classical.choose (⟨4000, rfl⟩ : ∃ n : Nat, n = 4000)
theorem FU_eq : FU = 4000 := Classical.choose_spec (⟨4000, rfl⟩ : ∃ n : Nat, n = 4000)
def rk_it1 {A ρ : Type} (f : (A → Option ρ) → A → Option ρ) : Nat → A → Option ρ
  | 0 => fun _ => none
  | n + 1 => f (rk_it1 f n)
def rk_it2 {A B ρ : Type} (f : (A → B → Option ρ) → A → B → Option ρ) : Nat → A → B → Option ρ
  | 0 => fun _ _ => none
  | n + 1 => f (rk_it2 f n)
def rk_it3 {A B C ρ : Type} (f : (A → B → C → Option ρ) → A → B → C → Option ρ) : Nat → A → B → C → Option ρ
  | 0 => fun _ _ _ => none
  | n + 1 => f (rk_it3 f n)
def rk_it4 {A B C D ρ : Type} (f : (A → B → C → D → Option ρ) → A → B → C → D → Option ρ) : Nat → A → B → C → D → Option ρ
  | 0 => fun _ _ _ _ => none
  | n + 1 => f (rk_it4 f n)
def rk_it5 {A B C D E ρ : Type} (f : (A → B → C → D → E → Option ρ) → A → B → C → D → E → Option ρ) : Nat → A → B → C → D → E → Option ρ
  | 0 => fun _ _ _ _ _ => none
  | n + 1 => f (rk_it5 f n)
def rk_it6 {A B C D E F ρ : Type} (f : (A → B → C → D → E → F → Option ρ) → A → B → C → D → E → F → Option ρ) : Nat → A → B → C → D → E → F → Option ρ
  | 0 => fun _ _ _ _ _ _ => none
  | n + 1 => f (rk_it6 f n)
def rk_it7 {A B C D E F G ρ : Type} (f : (A → B → C → D → E → F → G → Option ρ) → A → B → C → D → E → F → G → Option ρ) : Nat → A → B → C → D → E → F → G → Option ρ
  | 0 => fun _ _ _ _ _ _ _ => none
  | n + 1 => f (rk_it7 f n)
def rk_it8 {A B C D E F G I ρ : Type} (f : (A → B → C → D → E → F → G → I → Option ρ) → A → B → C → D → E → F → G → I → Option ρ) : Nat → A → B → C → D → E → F → G → I → Option ρ
  | 0 => fun _ _ _ _ _ _ _ _ => none
  | n + 1 => f (rk_it8 f n)
def rk_Qi (v : Int32) (D : va_G) (w1 wc : va_W) (sz : Nat) : Array Value → State → Outcome → State → Prop := va_Qi (fun q (_ : Unit) => q = v) (fun _ t => va_P D vwCl w1 t.heap ∧ va_D (va_A wc sz) w1) (va_A wc sz)
def rk_Ql (v : Int64) (D : va_G) (w1 wc : va_W) (sz : Nat) : Array Value → State → Outcome → State → Prop := va_Ql (fun q (_ : Unit) => q = v) (fun _ t => va_P D vwCl w1 t.heap ∧ va_D (va_A wc sz) w1) (va_A wc sz)
def rk_Qv (D : va_G) (w1 wc : va_W) (sz : Nat) : Array Value → State → Outcome → State → Prop := va_Qv (fun (_ : Unit) => True) (fun _ t => va_P D vwCl w1 t.heap ∧ va_D (va_A wc sz) w1) (va_A wc sz)
def rk_Qq (v : Option Nat) (D : va_G) (w1 wc : va_W) (sz : Nat) : Array Value → State → Outcome → State → Prop := va_Qq (fun q (_ : Unit) => q = v) (fun _ t => va_P D vwCl w1 t.heap ∧ va_D (va_A wc sz) w1) (va_A wc sz)
def rk_Qr (D : va_G) (w1 : Nat → va_W) (wc : va_W) (sz : Nat) : Array Value → State → Outcome → State → Prop := va_Qr (fun (_ : Unit) => True) (fun _ a t => va_P D vwCl (w1 a) t.heap ∧ va_D (va_A wc sz) (w1 a)) (va_A wc sz)
/-! ===== the walk's own rows, second: entry, return, calls ===== -/
theorem rk_met {l : Launch} {y : MethodName} {cc : ByteArray} {maxL : Nat} {ret : Option FieldType} {rm : Room} {D : va_G} {TY : List (ClassId × FieldType)} {RW RO PL : va_W} {av : List Value} {sz mc ms : Nat} {Qc : Array Value → State → Outcome → State → Prop} (hy : plainName y.cls = true) (hlen : (lg_sl av).length ≤ maxL)
    (body : ∀ (p : Program) (e : Env) (s : State) (m : MethodId) (args : Array Value) (below : List Frame) (meth : Method) (c : Code) (A : Nat → Prop) (ls : Array Slot), A = va_A RW sz → meth.sig.returnType = ret → meth.locks = false → meth.name = y.name → CallFix p m c cc maxL s args rk_c y.cls → va_P D vwCl RW s.heap → va_D A RW → (∀ q : Nat, s.heap.size ≤ q → A q) → rk_V D TY s → va_P D vwCl RO s.heap → (∀ (k : Nat) (q : Nat × va_E), RO[k]? = some q → ¬ A q.1) → va_P D vwCl PL s.heap → (∀ (k : Nat) (q : Nat × va_E), PL[k]? = some q → ¬ A q.1) → lv_has ls maxL (lv_args 0 av) →
      W p l e rm s m args below meth c s.heap [] 0 0 (MQ below Qc args s mc ms (va_A RW sz)) (F0 m 0 ls [])) :
    Met l y (rk_w y cc maxL ret) rm (va_Pc av (rk_B D TY RW RO PL sz)) Qc mc ms (va_A RW sz) := by
  refine Met.ofW (cc := cc) (maxL := maxL) (ret := ret) hy rfl ?_
  intro p e s m args below meth c s₁ B hml hv
  obtain ⟨rfl, hsz, hP, hD0, hR, hap, hPL, hpl, hV⟩ := hv
  have hts := atoms_spec (ws := rk_w y cc maxL ret) B.pre
  have hown := findClass_of_methodNamed B.named
  have hl := lv_entry av hlen
  rw [lg_entry_eq]
  subst hsz
  exact body p e s m _ below meth c _ _ rfl B.returns B.notSynchronized (name_of_methodNamed B.named B.method).1 ⟨B.exec, B.bytes, hml, hown, fun w h => hts w (List.mem_cons_of_mem _ h)⟩ hP hD0.self (fun q h => Or.inr h) hV hR (rk_apn hap (fun k q hk => (hR k q hk).lt)) hPL (rk_apn hpl (fun k q hk => (hPL k q hk).lt)) hl
section RKM
variable {l : Launch} {y : MethodName} {cc : ByteArray} {maxL : Nat} {rm : Room} {D : va_G} {TY : List (ClassId × FieldType)} {RW RO PL : va_W} {av : List Value} {sz mc ms : Nat} {X : Type} {g : Option X} {x0 : X}
theorem rk_meti (hg : g = some x0) (v : X → Int32) (w1 : X → va_W) (hy : plainName y.cls = true) (hlen : (lg_sl av).length ≤ maxL)
    (body : ∀ (p : Program) (e : Env) (s : State) (m : MethodId) (args : Array Value) (below : List Frame) (meth : Method) (c : Code) (A : Nat → Prop) (ls : Array Slot) (Q : State → Prop), (∀ (x : X) (H : Heap) (locs : List Loc) (pc : Nat) (ls : Array Slot), some x = some x0 → decode cc pc = .ok (.ireturn, 1) → va_P D vwCl (w1 x) H → va_D A (w1 x) → va_S A s.heap H locs → W p l e rm s m args below meth c H locs mc ms Q (F0 m pc ls [.int (v x)])) → meth.name = y.name → CallFix p m c cc maxL s args rk_c y.cls → va_P D vwCl RW s.heap → va_D A RW → (∀ q : Nat, s.heap.size ≤ q → A q) → rk_V D TY s → va_P D vwCl RO s.heap → (∀ (k : Nat) (q : Nat × va_E), RO[k]? = some q → ¬ A q.1) → va_P D vwCl PL s.heap → (∀ (k : Nat) (q : Nat × va_E), PL[k]? = some q → ¬ A q.1) → lv_has ls maxL (lv_args 0 av) → g = some x0 → va_S A s.heap s.heap [] →
      W p l e rm s m args below meth c s.heap [] 0 0 Q (F0 m 0 ls [])) :
    Met l y (rk_w y cc maxL (some .int)) rm (va_Pc av (rk_B D TY RW RO PL sz)) (rk_Qi (v x0) D (w1 x0) RW sz) mc ms (va_A RW sz) := by
  refine rk_met hy hlen ?_
  intro p e s m args below meth c A ls hAe hr hlocks hname hF hP hD hA hV hR hn hPL hnl hl
  refine body p e s m args below meth c A ls _ ?_ hname hF hP hD hA hV hR hn hPL hnl hl hg va_S.rf
  intro x H locs pc ls hx hdg hP hD hS
  cases hx
  subst hAe
  exact W.iret hF.1 hF.2.1 hr (fun t ht hW => ⟨⟨_, (), rfl, rfl, by rw [ht]; exact hP, hD⟩, hS.F ht⟩) hS.2.2 hdg hlocks
theorem rk_metz (hg : g = some x0) (v : X → Int32) (w1 : X → va_W) (hy : plainName y.cls = true) (hlen : (lg_sl av).length ≤ maxL)
    (body : ∀ (p : Program) (e : Env) (s : State) (m : MethodId) (args : Array Value) (below : List Frame) (meth : Method) (c : Code) (A : Nat → Prop) (ls : Array Slot) (Q : State → Prop), (∀ (x : X) (H : Heap) (locs : List Loc) (pc : Nat) (ls : Array Slot), some x = some x0 → narrow .boolean (.int (v x)) = .int (v x) → decode cc pc = .ok (.ireturn, 1) → va_P D vwCl (w1 x) H → va_D A (w1 x) → va_S A s.heap H locs → W p l e rm s m args below meth c H locs mc ms Q (F0 m pc ls [.int (v x)])) → meth.name = y.name → CallFix p m c cc maxL s args rk_c y.cls → va_P D vwCl RW s.heap → va_D A RW → (∀ q : Nat, s.heap.size ≤ q → A q) → rk_V D TY s → va_P D vwCl RO s.heap → (∀ (k : Nat) (q : Nat × va_E), RO[k]? = some q → ¬ A q.1) → va_P D vwCl PL s.heap → (∀ (k : Nat) (q : Nat × va_E), PL[k]? = some q → ¬ A q.1) → lv_has ls maxL (lv_args 0 av) → g = some x0 → va_S A s.heap s.heap [] →
      W p l e rm s m args below meth c s.heap [] 0 0 Q (F0 m 0 ls [])) :
    Met l y (rk_w y cc maxL (some .boolean)) rm (va_Pc av (rk_B D TY RW RO PL sz)) (rk_Qi (v x0) D (w1 x0) RW sz) mc ms (va_A RW sz) := by
  refine rk_met hy hlen ?_
  intro p e s m args below meth c A ls hAe hr hlocks hname hF hP hD hA hV hR hn hPL hnl hl
  refine body p e s m args below meth c A ls _ ?_ hname hF hP hD hA hV hR hn hPL hnl hl hg va_S.rf
  intro x H locs pc ls hx hz hdg hP hD hS
  cases hx
  subst hAe
  exact W.zret hF.1 hF.2.1 hr hz (fun t ht hW => ⟨⟨_, (), rfl, rfl, by rw [ht]; exact hP, hD⟩, hS.F ht⟩) hS.2.2 hdg hlocks
theorem rk_metl (hg : g = some x0) (v : X → Int64) (w1 : X → va_W) (hy : plainName y.cls = true) (hlen : (lg_sl av).length ≤ maxL)
    (body : ∀ (p : Program) (e : Env) (s : State) (m : MethodId) (args : Array Value) (below : List Frame) (meth : Method) (c : Code) (A : Nat → Prop) (ls : Array Slot) (Q : State → Prop), (∀ (x : X) (H : Heap) (locs : List Loc) (pc : Nat) (ls : Array Slot), some x = some x0 → decode cc pc = .ok (.lreturn, 1) → va_P D vwCl (w1 x) H → va_D A (w1 x) → va_S A s.heap H locs → W p l e rm s m args below meth c H locs mc ms Q (F0 m pc ls [.long (v x)])) → meth.name = y.name → CallFix p m c cc maxL s args rk_c y.cls → va_P D vwCl RW s.heap → va_D A RW → (∀ q : Nat, s.heap.size ≤ q → A q) → rk_V D TY s → va_P D vwCl RO s.heap → (∀ (k : Nat) (q : Nat × va_E), RO[k]? = some q → ¬ A q.1) → va_P D vwCl PL s.heap → (∀ (k : Nat) (q : Nat × va_E), PL[k]? = some q → ¬ A q.1) → lv_has ls maxL (lv_args 0 av) → g = some x0 → va_S A s.heap s.heap [] →
      W p l e rm s m args below meth c s.heap [] 0 0 Q (F0 m 0 ls [])) :
    Met l y (rk_w y cc maxL (some .long)) rm (va_Pc av (rk_B D TY RW RO PL sz)) (rk_Ql (v x0) D (w1 x0) RW sz) mc ms (va_A RW sz) := by
  refine rk_met hy hlen ?_
  intro p e s m args below meth c A ls hAe hr hlocks hname hF hP hD hA hV hR hn hPL hnl hl
  refine body p e s m args below meth c A ls _ ?_ hname hF hP hD hA hV hR hn hPL hnl hl hg va_S.rf
  intro x H locs pc ls hx hdg hP hD hS
  cases hx
  subst hAe
  exact W.lret hF.1 hF.2.1 hr (fun t ht hW => ⟨⟨_, (), rfl, rfl, by rw [ht]; exact hP, hD⟩, hS.F ht⟩) hS.2.2 hdg hlocks
theorem rk_metv (hg : g = some x0) (w1 : X → va_W) (hy : plainName y.cls = true) (hlen : (lg_sl av).length ≤ maxL)
    (body : ∀ (p : Program) (e : Env) (s : State) (m : MethodId) (args : Array Value) (below : List Frame) (meth : Method) (c : Code) (A : Nat → Prop) (ls : Array Slot) (Q : State → Prop), (∀ (x : X) (H : Heap) (locs : List Loc) (pc : Nat) (ls : Array Slot), some x = some x0 → decode cc pc = .ok (.return_, 1) → va_P D vwCl (w1 x) H → va_D A (w1 x) → va_S A s.heap H locs → W p l e rm s m args below meth c H locs mc ms Q (F0 m pc ls [])) → meth.name = y.name → CallFix p m c cc maxL s args rk_c y.cls → va_P D vwCl RW s.heap → va_D A RW → (∀ q : Nat, s.heap.size ≤ q → A q) → rk_V D TY s → va_P D vwCl RO s.heap → (∀ (k : Nat) (q : Nat × va_E), RO[k]? = some q → ¬ A q.1) → va_P D vwCl PL s.heap → (∀ (k : Nat) (q : Nat × va_E), PL[k]? = some q → ¬ A q.1) → lv_has ls maxL (lv_args 0 av) → g = some x0 → va_S A s.heap s.heap [] →
      W p l e rm s m args below meth c s.heap [] 0 0 Q (F0 m 0 ls [])) :
    Met l y (rk_w y cc maxL none) rm (va_Pc av (rk_B D TY RW RO PL sz)) (rk_Qv D (w1 x0) RW sz) mc ms (va_A RW sz) := by
  refine rk_met hy hlen ?_
  intro p e s m args below meth c A ls hAe hr hlocks hname hF hP hD hA hV hR hn hPL hnl hl
  refine body p e s m args below meth c A ls _ ?_ hname hF hP hD hA hV hR hn hPL hnl hl hg va_S.rf
  intro x H locs pc ls hx hdg hP hD hS
  cases hx
  subst hAe
  exact W.vret hF.1 hF.2.1 hr (fun t ht hW => ⟨⟨(), rfl, trivial, by rw [ht]; exact hP, hD⟩, hS.F ht⟩) hS.2.2 hdg hlocks
theorem rk_metq {C : String} (hg : g = some x0) (v : X → Option Nat) (w1 : X → va_W) (hy : plainName y.cls = true) (hlen : (lg_sl av).length ≤ maxL)
    (body : ∀ (p : Program) (e : Env) (s : State) (m : MethodId) (args : Array Value) (below : List Frame) (meth : Method) (c : Code) (A : Nat → Prop) (ls : Array Slot) (Q : State → Prop), (∀ (x : X) (H : Heap) (locs : List Loc) (pc : Nat) (ls : Array Slot), some x = some x0 → decode cc pc = .ok (.areturn, 1) → va_P D vwCl (w1 x) H → va_D A (w1 x) → va_S A s.heap H locs → W p l e rm s m args below meth c H locs mc ms Q (F0 m pc ls [va_rf (v x)])) → meth.name = y.name → CallFix p m c cc maxL s args rk_c y.cls → va_P D vwCl RW s.heap → va_D A RW → (∀ q : Nat, s.heap.size ≤ q → A q) → rk_V D TY s → va_P D vwCl RO s.heap → (∀ (k : Nat) (q : Nat × va_E), RO[k]? = some q → ¬ A q.1) → va_P D vwCl PL s.heap → (∀ (k : Nat) (q : Nat × va_E), PL[k]? = some q → ¬ A q.1) → lv_has ls maxL (lv_args 0 av) → g = some x0 → va_S A s.heap s.heap [] →
      W p l e rm s m args below meth c s.heap [] 0 0 Q (F0 m 0 ls [])) :
    Met l y (rk_w y cc maxL (some (.object C))) rm (va_Pc av (rk_B D TY RW RO PL sz)) (rk_Qq (v x0) D (w1 x0) RW sz) mc ms (va_A RW sz) := by
  refine rk_met hy hlen ?_
  intro p e s m args below meth c A ls hAe hr hlocks hname hF hP hD hA hV hR hn hPL hnl hl
  refine body p e s m args below meth c A ls _ ?_ hname hF hP hD hA hV hR hn hPL hnl hl hg va_S.rf
  intro x H locs pc ls hx hdg hP hD hS
  cases hx
  subst hAe
  exact W.aret hF.1 hF.2.1 hr (Or.inl ⟨_, rfl⟩) (va_rf_or _) (fun t ht hW => ⟨⟨_, (), rfl, rfl, by rw [ht]; exact hP, hD⟩, hS.F ht⟩) hS.2.2 hdg hlocks
theorem rk_metr {rt : FieldType} (hrt : (∃ n, rt = .object n) ∨ ∃ t, rt = .array t) (hg : g = some x0) (w1 : X → Nat → va_W) (hy : plainName y.cls = true) (hlen : (lg_sl av).length ≤ maxL)
    (body : ∀ (p : Program) (e : Env) (s : State) (m : MethodId) (args : Array Value) (below : List Frame) (meth : Method) (c : Code) (A : Nat → Prop) (ls : Array Slot) (Q : State → Prop), (∀ (x : X) (a : Nat) (H : Heap) (locs : List Loc) (pc : Nat) (ls : Array Slot), some x = some x0 → decode cc pc = .ok (.areturn, 1) → va_P D vwCl (w1 x a) H → va_D A (w1 x a) → va_S A s.heap H locs → W p l e rm s m args below meth c H locs mc ms Q (F0 m pc ls [.ref a])) → meth.name = y.name → CallFix p m c cc maxL s args rk_c y.cls → va_P D vwCl RW s.heap → va_D A RW → (∀ q : Nat, s.heap.size ≤ q → A q) → rk_V D TY s → va_P D vwCl RO s.heap → (∀ (k : Nat) (q : Nat × va_E), RO[k]? = some q → ¬ A q.1) → va_P D vwCl PL s.heap → (∀ (k : Nat) (q : Nat × va_E), PL[k]? = some q → ¬ A q.1) → lv_has ls maxL (lv_args 0 av) → g = some x0 → va_S A s.heap s.heap [] →
      W p l e rm s m args below meth c s.heap [] 0 0 Q (F0 m 0 ls [])) :
    Met l y (rk_w y cc maxL (some rt)) rm (va_Pc av (rk_B D TY RW RO PL sz)) (rk_Qr D (w1 x0) RW sz) mc ms (va_A RW sz) := by
  refine rk_met hy hlen ?_
  intro p e s m args below meth c A ls hAe hr hlocks hname hF hP hD hA hV hR hn hPL hnl hl
  refine body p e s m args below meth c A ls _ ?_ hname hF hP hD hA hV hR hn hPL hnl hl hg va_S.rf
  intro x a H locs pc ls hx hdg hP hD hS
  cases hx
  subst hAe
  exact W.aret hF.1 hF.2.1 hr hrt (Or.inr ⟨a, rfl⟩) (fun t ht hW => ⟨⟨(), a, rfl, trivial, by rw [ht]; exact hP, hD⟩, hS.F ht⟩) hS.2.2 hdg hlocks
end RKM
section RKC
variable {p : Program} {l : Launch} {e : Env} {R : Room} {s : State} {m : MethodId} {args : Array Value} {below : List Frame} {meth : Method} {c : Code} {H H0 : Heap} {locs : List Loc} {cells slots : Nat} {Q : State → Prop} {D : va_G} {TY : List (ClassId × FieldType)} {ws ro PL wc rc wr w1 : va_W} {A : Nat → Prop} {av : List Value} {pc mc ms : Nat} {ls : Array Slot} {st0 rest : List Value} {a : Array Value}
theorem rk_blind {RW RO : va_W} {sz : Nat} : FrameBlind (va_Pc av (rk_B D TY RW RO PL sz)) := fun a U g mk q => by
  obtain ⟨q0, q1, q2, q3, q4, q5, q6, q7, q8⟩ := q
  exact ⟨q0, q1, q2, q3, q4, q5, q6, q7, rk_V.same (s := U) rfl q8⟩
theorem rk_preS (hP : va_P D vwCl ws H) (hD : va_D A ws) (hS : va_S A H0 H locs) (hR : va_P D vwCl ro H) (hn : ∀ (k : Nat) (q : Nat × va_E), ro[k]? = some q → ¬ A q.1) (hPL : va_P D vwCl PL H0) (hnl : ∀ (k : Nat) (q : Nat × va_E), PL[k]? = some q → ¬ A q.1) (hV : rk_V D TY s) (isC : List Nat) (src : List (Bool × Nat)) (hC : isC.map (fun i => ws[i]?) = wc.map some) (hnd : va_nd isC = true) (hsrc : src.map (fun x => if x.1 = true then ws[x.2]? else ro[x.2]?) = rc.map some) (hdis : (src.all fun x => !x.1 || !isC.contains x.2) = true) : PreS s H (va_Pc av (rk_B D TY wc rc PL H.size)) av := by
  refine ⟨rk_blind, fun U hU hW => ?_⟩
  have hwc : va_P D vwCl wc H := by
    intro k q hk
    have h1 : (isC.map (fun i => ws[i]?))[k]? = some (some q) := by rw [hC, List.getElem?_map, hk]; rfl
    rw [List.getElem?_map] at h1
    cases hi : isC[k]? with
    | none => rw [hi] at h1; cases h1
    | some i => rw [hi] at h1; exact hP i q (Option.some.inj h1)
  have key : ∀ (k : Nat) (q : Nat × va_E), rc[k]? = some q → va_at D vwCl q H ∧ ∀ (j : Nat) (p : Nat × va_E), wc[j]? = some p → p.1 ≠ q.1 := by
    intro k q hk
    have h1 : (src.map (fun x => if x.1 = true then ws[x.2]? else ro[x.2]?))[k]? = some (some q) := by rw [hsrc, List.getElem?_map, hk]; rfl
    rw [List.getElem?_map] at h1
    cases hi : src[k]? with
    | none => rw [hi] at h1; cases h1
    | some x =>
      rw [hi] at h1
      have h2 : (if x.1 = true then ws[x.2]? else ro[x.2]?) = some q := Option.some.inj h1
      have hmem : x ∈ src := List.mem_of_getElem? hi
      by_cases hx : x.1 = true
      · rw [if_pos hx] at h2
        refine ⟨hP _ q h2, fun j p hj e => ?_⟩
        have h3 : (isC.map (fun i => ws[i]?))[j]? = some (some p) := by rw [hC, List.getElem?_map, hj]; rfl
        rw [List.getElem?_map] at h3
        cases hc : isC[j]? with
        | none => rw [hc] at h3; cases h3
        | some i =>
          rw [hc] at h3
          have h4 := hD.1 i x.2 p q (Option.some.inj h3) h2 e
          have h5 := List.all_eq_true.mp hdis x hmem
          rw [hx] at h5
          have h6 : x.2 ∈ isC := h4 ▸ List.mem_of_getElem? hc
          simp [h6] at h5
      · rw [if_neg hx] at h2
        refine ⟨hR _ q h2, fun j p hj e => ?_⟩
        have h3 : (isC.map (fun i => ws[i]?))[j]? = some (some p) := by rw [hC, List.getElem?_map, hj]; rfl
        rw [List.getElem?_map] at h3
        cases hc : isC[j]? with
        | none => rw [hc] at h3; cases h3
        | some i =>
          rw [hc] at h3
          exact hn _ q h2 (e ▸ hD.2 i p (Option.some.inj h3))
  have hDc : va_D (fun _ => True) wc := (hD.sub isC hnd hC).weaken (fun _ _ _ _ => trivial)
  refine ⟨rfl, by rw [hU], by rw [hU]; exact hwc, hDc, by rw [hU]; exact fun k q hk => (key k q hk).1, fun k q hk j p hj => (key k q hk).2 j p hj, by rw [hU]; exact rk_keep hPL hnl hS, fun k q hk j p hj e => ?_, hV.warm hW⟩
  have h3 : (isC.map (fun i => ws[i]?))[j]? = some (some p) := by rw [hC, List.getElem?_map, hj]; rfl
  rw [List.getElem?_map] at h3
  cases hc : isC[j]? with
  | none => rw [hc] at h3; cases h3
  | some i =>
    rw [hc] at h3
    exact hnl _ q hk (e ▸ hD.2 i p (Option.some.inj h3))
theorem rk_preV {C : String} {b : Nat} (hrv : ∃ cell : Cell, H[b]? = some cell ∧ cell.vm.isStatics = false ∧ s.vm.findClass C = some cell.cls) (h : PreS s H (va_Pc (.ref b :: av) (rk_B D TY wc rc PL H.size)) (.ref b :: av)) : PreV s H C b (va_Pc (.ref b :: av) (rk_B D TY wc rc PL H.size)) av := ⟨h.1, hrv, h.2⟩
theorem rk_i {v : Int32} (hr : va_Run p l e R s m args below meth c H locs cells slots mc ms (F0 m pc ls st0) rest (rk_Qi v D w1 wc H.size a) (va_A wc H.size)) (hP : va_P D vwCl ws H) (hD : va_D A ws) (hS : va_S A H0 H locs) (hA : ∀ q : Nat, H0.size ≤ q → A q) (hR0 : va_P D vwCl ro H0) (hn : ∀ (k : Nat) (q : Nat × va_E), ro[k]? = some q → ¬ A q.1) (isC isR : List Nat) (hC : isC.map (fun i => ws[i]?) = wc.map some) (hr2 : isR.map (fun i => ws[i]?) = wr.map some) (hnd : va_nd isR = true) (hdis : ∀ i ∈ isR, i ∉ isC)
    (kk : ∀ (H1 : Heap) (locs1 : List Loc), va_P D vwCl (wr ++ w1) H1 → va_D A (wr ++ w1) → va_S A H0 H1 locs1 → va_P D vwCl ro H1 → W p l e R s m args below meth c H1 locs1 (cells + mc) (slots + ms) Q (F0 m (pc + 3) ls (.int v :: rest))) : W p l e R s m args below meth c H locs cells slots Q (F0 m pc ls st0) := by
  have hFc := va_free hD hS hA isC hC
  refine va_calli hr hS (fun q _ h => hFc q h) hFc (fun r u t H1 locs ht hvm hw hB hz1 hk1 hS => ?_)
  obtain ⟨hP1, hD1⟩ := hB
  rw [ht] at hP1
  subst hw
  obtain ⟨hP, hD⟩ := va_join hP hD isC isR hC hr2 hnd hdis hk1 hFc hP1 hD1
  exact kk H1 locs hP hD hS (rk_keep hR0 hn hS)
theorem rk_l {v : Int64} (hr : va_Run p l e R s m args below meth c H locs cells slots mc ms (F0 m pc ls st0) rest (rk_Ql v D w1 wc H.size a) (va_A wc H.size)) (hP : va_P D vwCl ws H) (hD : va_D A ws) (hS : va_S A H0 H locs) (hA : ∀ q : Nat, H0.size ≤ q → A q) (hR0 : va_P D vwCl ro H0) (hn : ∀ (k : Nat) (q : Nat × va_E), ro[k]? = some q → ¬ A q.1) (isC isR : List Nat) (hC : isC.map (fun i => ws[i]?) = wc.map some) (hr2 : isR.map (fun i => ws[i]?) = wr.map some) (hnd : va_nd isR = true) (hdis : ∀ i ∈ isR, i ∉ isC)
    (kk : ∀ (H1 : Heap) (locs1 : List Loc), va_P D vwCl (wr ++ w1) H1 → va_D A (wr ++ w1) → va_S A H0 H1 locs1 → va_P D vwCl ro H1 → W p l e R s m args below meth c H1 locs1 (cells + mc) (slots + ms) Q (F0 m (pc + 3) ls (.long v :: rest))) : W p l e R s m args below meth c H locs cells slots Q (F0 m pc ls st0) := by
  have hFc := va_free hD hS hA isC hC
  refine va_calll hr hS (fun q _ h => hFc q h) hFc (fun r u t H1 locs ht hvm hw hB hz1 hk1 hS => ?_)
  obtain ⟨hP1, hD1⟩ := hB
  rw [ht] at hP1
  subst hw
  obtain ⟨hP, hD⟩ := va_join hP hD isC isR hC hr2 hnd hdis hk1 hFc hP1 hD1
  exact kk H1 locs hP hD hS (rk_keep hR0 hn hS)
theorem rk_q {v : Option Nat} (hr : va_Run p l e R s m args below meth c H locs cells slots mc ms (F0 m pc ls st0) rest (rk_Qq v D w1 wc H.size a) (va_A wc H.size)) (hP : va_P D vwCl ws H) (hD : va_D A ws) (hS : va_S A H0 H locs) (hA : ∀ q : Nat, H0.size ≤ q → A q) (hR0 : va_P D vwCl ro H0) (hn : ∀ (k : Nat) (q : Nat × va_E), ro[k]? = some q → ¬ A q.1) (isC isR : List Nat) (hC : isC.map (fun i => ws[i]?) = wc.map some) (hr2 : isR.map (fun i => ws[i]?) = wr.map some) (hnd : va_nd isR = true) (hdis : ∀ i ∈ isR, i ∉ isC)
    (kk : ∀ (H1 : Heap) (locs1 : List Loc), va_P D vwCl (wr ++ w1) H1 → va_D A (wr ++ w1) → va_S A H0 H1 locs1 → va_P D vwCl ro H1 → W p l e R s m args below meth c H1 locs1 (cells + mc) (slots + ms) Q (F0 m (pc + 3) ls (va_rf v :: rest))) : W p l e R s m args below meth c H locs cells slots Q (F0 m pc ls st0) := by
  have hFc := va_free hD hS hA isC hC
  refine va_callq hr hS (fun q _ h => hFc q h) hFc (fun r u t H1 locs ht hvm hw hB hz1 hk1 hS => ?_)
  obtain ⟨hP1, hD1⟩ := hB
  rw [ht] at hP1
  subst hw
  obtain ⟨hP, hD⟩ := va_join hP hD isC isR hC hr2 hnd hdis hk1 hFc hP1 hD1
  exact kk H1 locs hP hD hS (rk_keep hR0 hn hS)
theorem rk_v (hr : va_Run p l e R s m args below meth c H locs cells slots mc ms (F0 m pc ls st0) rest (rk_Qv D w1 wc H.size a) (va_A wc H.size)) (hP : va_P D vwCl ws H) (hD : va_D A ws) (hS : va_S A H0 H locs) (hA : ∀ q : Nat, H0.size ≤ q → A q) (hR0 : va_P D vwCl ro H0) (hn : ∀ (k : Nat) (q : Nat × va_E), ro[k]? = some q → ¬ A q.1) (isC isR : List Nat) (hC : isC.map (fun i => ws[i]?) = wc.map some) (hr2 : isR.map (fun i => ws[i]?) = wr.map some) (hnd : va_nd isR = true) (hdis : ∀ i ∈ isR, i ∉ isC)
    (kk : ∀ (H1 : Heap) (locs1 : List Loc), va_P D vwCl (wr ++ w1) H1 → va_D A (wr ++ w1) → va_S A H0 H1 locs1 → va_P D vwCl ro H1 → W p l e R s m args below meth c H1 locs1 (cells + mc) (slots + ms) Q (F0 m (pc + 3) ls rest)) : W p l e R s m args below meth c H locs cells slots Q (F0 m pc ls st0) := by
  have hFc := va_free hD hS hA isC hC
  refine va_callv hr hS (fun q _ h => hFc q h) hFc (fun u t H1 locs ht hvm hw hB hz1 hk1 hS => ?_)
  obtain ⟨hP1, hD1⟩ := hB
  rw [ht] at hP1
  obtain ⟨hP, hD⟩ := va_join hP hD isC isR hC hr2 hnd hdis hk1 hFc hP1 hD1
  exact kk H1 locs hP hD hS (rk_keep hR0 hn hS)
theorem rk_r {w1 : Nat → va_W} (hr : va_Run p l e R s m args below meth c H locs cells slots mc ms (F0 m pc ls st0) rest (rk_Qr D w1 wc H.size a) (va_A wc H.size)) (hP : va_P D vwCl ws H) (hD : va_D A ws) (hS : va_S A H0 H locs) (hA : ∀ q : Nat, H0.size ≤ q → A q) (hR0 : va_P D vwCl ro H0) (hn : ∀ (k : Nat) (q : Nat × va_E), ro[k]? = some q → ¬ A q.1) (isC isR : List Nat) (hC : isC.map (fun i => ws[i]?) = wc.map some) (hr2 : isR.map (fun i => ws[i]?) = wr.map some) (hnd : va_nd isR = true) (hdis : ∀ i ∈ isR, i ∉ isC)
    (kk : ∀ (b : Nat) (H1 : Heap) (locs1 : List Loc), va_P D vwCl (wr ++ w1 b) H1 → va_D A (wr ++ w1 b) → va_S A H0 H1 locs1 → va_P D vwCl ro H1 → W p l e R s m args below meth c H1 locs1 (cells + mc) (slots + ms) Q (F0 m (pc + 3) ls (.ref b :: rest))) : W p l e R s m args below meth c H locs cells slots Q (F0 m pc ls st0) := by
  have hFc := va_free hD hS hA isC hC
  refine va_callr hr hS (fun q _ h => hFc q h) hFc (fun u b t H1 locs ht hvm hw hB hz1 hk1 hS => ?_)
  obtain ⟨hP1, hD1⟩ := hB
  rw [ht] at hP1
  obtain ⟨hP, hD⟩ := va_join hP hD isC isR hC hr2 hnd hdis hk1 hFc hP1 hD1
  exact kk b H1 locs hP hD hS (rk_keep hR0 hn hS)
variable {cc : ByteArray}
theorem rk_lceq (hexec : p.tables.exec = Jvm.exec) (hb : c.code = cc) {x y : Int64} {off : Int} {tgt : Nat} (h1 : decode cc pc = .ok (.lcmp, 1)) (hdg : decode cc (pc + 1) = .ok (.ifCond .eq off, 3)) (ht : ((pc + 1 : Nat) : Int) + off = (tgt : Int))
    (kt : x = y → W p l e R s m args below meth c H locs cells slots Q (F0 m tgt ls rest)) (kf : ¬ x = y → W p l e R s m args below meth c H locs cells slots Q (F0 m (pc + 4) ls rest)) : W p l e R s m args below meth c H locs cells slots Q (F0 m pc ls (.long y :: .long x :: rest)) :=
  W.lcmp hexec hb h1 (lv_if_eq hexec hb hdg ht (fun h => kt ((lg_cmp_eq x y).mp h)) (fun h => kf (fun h' => h ((lg_cmp_eq x y).mpr h'))))
theorem rk_lcne (hexec : p.tables.exec = Jvm.exec) (hb : c.code = cc) {x y : Int64} {off : Int} {tgt : Nat} (h1 : decode cc pc = .ok (.lcmp, 1)) (hdg : decode cc (pc + 1) = .ok (.ifCond .ne off, 3)) (ht : ((pc + 1 : Nat) : Int) + off = (tgt : Int))
    (kt : ¬ x = y → W p l e R s m args below meth c H locs cells slots Q (F0 m tgt ls rest)) (kf : x = y → W p l e R s m args below meth c H locs cells slots Q (F0 m (pc + 4) ls rest)) : W p l e R s m args below meth c H locs cells slots Q (F0 m pc ls (.long y :: .long x :: rest)) :=
  W.lcmp hexec hb h1 (lv_if_ne hexec hb hdg ht (fun h => kt (fun h' => h ((lg_cmp_eq x y).mpr h'))) (fun h => kf ((lg_cmp_eq x y).mp h)))
theorem rk_lclt (hexec : p.tables.exec = Jvm.exec) (hb : c.code = cc) {x y : Int64} {off : Int} {tgt : Nat} (h1 : decode cc pc = .ok (.lcmp, 1)) (hdg : decode cc (pc + 1) = .ok (.ifCond .lt off, 3)) (ht : ((pc + 1 : Nat) : Int) + off = (tgt : Int))
    (kt : x < y → W p l e R s m args below meth c H locs cells slots Q (F0 m tgt ls rest)) (kf : ¬ x < y → W p l e R s m args below meth c H locs cells slots Q (F0 m (pc + 4) ls rest)) : W p l e R s m args below meth c H locs cells slots Q (F0 m pc ls (.long y :: .long x :: rest)) :=
  W.lcmp hexec hb h1 (lv_if_lt hexec hb hdg ht (fun h => kt ((lg_cmp_lt x y).mp h)) (fun h => kf (fun h' => h ((lg_cmp_lt x y).mpr h'))))
theorem rk_lcge (hexec : p.tables.exec = Jvm.exec) (hb : c.code = cc) {x y : Int64} {off : Int} {tgt : Nat} (h1 : decode cc pc = .ok (.lcmp, 1)) (hdg : decode cc (pc + 1) = .ok (.ifCond .ge off, 3)) (ht : ((pc + 1 : Nat) : Int) + off = (tgt : Int))
    (kt : y ≤ x → W p l e R s m args below meth c H locs cells slots Q (F0 m tgt ls rest)) (kf : ¬ y ≤ x → W p l e R s m args below meth c H locs cells slots Q (F0 m (pc + 4) ls rest)) : W p l e R s m args below meth c H locs cells slots Q (F0 m pc ls (.long y :: .long x :: rest)) :=
  W.lcmp hexec hb h1 (lv_if_ge hexec hb hdg ht (fun h => kt ((lg_cmp_ge x y).mp h)) (fun h => kf (fun h' => h ((lg_cmp_ge x y).mpr h'))))
theorem rk_lcgt (hexec : p.tables.exec = Jvm.exec) (hb : c.code = cc) {x y : Int64} {off : Int} {tgt : Nat} (h1 : decode cc pc = .ok (.lcmp, 1)) (hdg : decode cc (pc + 1) = .ok (.ifCond .gt off, 3)) (ht : ((pc + 1 : Nat) : Int) + off = (tgt : Int))
    (kt : y < x → W p l e R s m args below meth c H locs cells slots Q (F0 m tgt ls rest)) (kf : ¬ y < x → W p l e R s m args below meth c H locs cells slots Q (F0 m (pc + 4) ls rest)) : W p l e R s m args below meth c H locs cells slots Q (F0 m pc ls (.long y :: .long x :: rest)) :=
  W.lcmp hexec hb h1 (lv_if_gt hexec hb hdg ht (fun h => kt ((lg_cmp_gt x y).mp h)) (fun h => kf (fun h' => h ((lg_cmp_gt x y).mpr h'))))
theorem rk_lcle (hexec : p.tables.exec = Jvm.exec) (hb : c.code = cc) {x y : Int64} {off : Int} {tgt : Nat} (h1 : decode cc pc = .ok (.lcmp, 1)) (hdg : decode cc (pc + 1) = .ok (.ifCond .le off, 3)) (ht : ((pc + 1 : Nat) : Int) + off = (tgt : Int))
    (kt : x ≤ y → W p l e R s m args below meth c H locs cells slots Q (F0 m tgt ls rest)) (kf : ¬ x ≤ y → W p l e R s m args below meth c H locs cells slots Q (F0 m (pc + 4) ls rest)) : W p l e R s m args below meth c H locs cells slots Q (F0 m pc ls (.long y :: .long x :: rest)) :=
  W.lcmp hexec hb h1 (lv_if_le hexec hb hdg ht (fun h => kt ((lg_cmp_le x y).mp h)) (fun h => kf (fun h' => h ((lg_cmp_le x y).mpr h'))))
end RKC
