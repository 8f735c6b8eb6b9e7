theorem w_1_15 : (Jvm.Cond.classLink "EnumerativeCoderLaw" (7 : Nat) "EnumerativeCoder") ∈ rk_c := rk_in (rk_t1 (List.mem_of_getElem? (i := 15) (by decide +kernel))) rfl
theorem w_1_16 : (Jvm.Cond.instantiable "EnumerativeCoder" (5 : Nat)) ∈ rk_c := rk_in (rk_t1 (List.mem_of_getElem? (i := 16) (by decide +kernel))) rfl
theorem w_1_17 : (Jvm.Cond.methodLink "EnumerativeCoderLaw" (9 : Nat) ({ cls := "EnumerativeCoder", name := "<init>", desc := "()V" } : Jvm.MethodName)) ∈ rk_c := rk_in (rk_t1 (List.mem_of_getElem? (i := 17) (by decide +kernel))) rfl
theorem w_1_18 : (Jvm.Cond.instanceMethod ({ cls := "EnumerativeCoder", name := "<init>", desc := "()V" } : Jvm.MethodName)) ∈ rk_c := rk_in (rk_t1 (List.mem_of_getElem? (i := 18) (by decide +kernel))) rfl
theorem w_1_19 : (Jvm.Cond.code ({ cls := "EnumerativeCoder", name := "<init>", desc := "()V" } : Jvm.MethodName) prog_1_method_1_code (1 : Nat) (Option.none : Option Jvm.ClassFile.FieldType)) ∈ rk_c := rk_in (rk_t1 (List.mem_of_getElem? (i := 19) (by decide +kernel))) rfl
theorem w_3_224 : (Jvm.Cond.classLink "EnumerativeCoderLaw" (10 : Nat) "EnumerativeCoderModel") ∈ rk_c := rk_in (rk_t3 (List.mem_of_getElem? (i := 224) (by decide +kernel))) rfl
theorem w_3_225 : (Jvm.Cond.instantiable "EnumerativeCoderModel" (17 : Nat)) ∈ rk_c := rk_in (rk_t3 (List.mem_of_getElem? (i := 225) (by decide +kernel))) rfl
theorem w_3_226 : (Jvm.Cond.methodLink "EnumerativeCoderLaw" (12 : Nat) ({ cls := "EnumerativeCoderModel", name := "<init>", desc := "()V" } : Jvm.MethodName)) ∈ rk_c := rk_in (rk_t3 (List.mem_of_getElem? (i := 226) (by decide +kernel))) rfl
theorem w_3_227 : (Jvm.Cond.instanceMethod ({ cls := "EnumerativeCoderModel", name := "<init>", desc := "()V" } : Jvm.MethodName)) ∈ rk_c := rk_in (rk_t3 (List.mem_of_getElem? (i := 227) (by decide +kernel))) rfl
theorem w_3_228 : (Jvm.Cond.code ({ cls := "EnumerativeCoderModel", name := "<init>", desc := "()V" } : Jvm.MethodName) prog_12_method_1_code (3 : Nat) (Option.none : Option Jvm.ClassFile.FieldType)) ∈ rk_c := rk_in (rk_t3 (List.mem_of_getElem? (i := 228) (by decide +kernel))) rfl
set_option maxHeartbeats 4000000 in
set_option maxRecDepth 100000 in
theorem law_loop {p : Program} {l : Launch} {e : Env} {s : State} {m : MethodId} {below : List Frame} {meth : Method} {c : Code} {b0 Ln : Nat} {xs : Nat → Int32} {D : va_G} {cI cJ cO : ClassId} {ad : Nat → Nat} {B T F K P C V : Nat → Int64} {Q : Nat → Int32} (C0 : LwC p s m c b0 Ln xs (fun q => s.heap.size ≤ q) D cI cJ cO) (hr : meth.sig.returnType = ret) (hlocks : meth.locks = false) (ht : TT B T F K P C Q V) : ∀ (n i : Nat) (cells slots : Nat) (H : Heap) (locs : List Loc) (ls : Array Slot), i ≤ Ln + 5 → Ln + 5 < i + 5 * n → cells + n ≤ 600000 → slots + 8 * n ≤ 7302250 → Inv D cI cJ cO ad B T F K P C Q V (fun q => s.heap.size ≤ q) H → va_S (fun q => s.heap.size ≤ q) s.heap H locs → lv_has ls 4 (lwl b0 ad i) → W p l e room_1 s m #[Value.ref b0] below meth c H locs cells slots (lw_Z below #[Value.ref b0] s) (F0 m 18 ls []) := by
  obtain ⟨hx, hb, hF, hV, hX, hbl, hbA, hA, hL⟩ := id C0
  have hown : s.vm.findClass RL = some m.cls := hF.2.2.2.1
  have htc := hF.2.2.2.2
  intro n
  induction n with
  | zero =>
    intro i cells slots H locs ls h1 h2
    omega
  | succ n ih =>
    intro i cells slots H locs ls h1 h2 h3 h4 hI hS hl
    refine lv_iload_n hx hb dL_law_18 rfl (lv_at hl 3 rfl) ?_
    refine lv_aload_n hx hb dL_law_19 rfl (lv_at hl 0 rfl) ?_
    refine va_slen hx hb hX hbl hbA hS dL_law_20 ?_
    refine lv_iconst (v := 5) hx hb dL_law_21 (by decide) ?_
    refine lv_isub hx hb dL_law_22 ?_
    have e5 : (Int32.ofNat Ln - 5).toInt = (Ln : Int) - 5 := by
      rw [show Int32.ofNat Ln = nI Ln from rfl, Int32.toInt_sub, i_nI (by omega), show (5 : Int32).toInt = 5 by decide]
      exact Int.bmod_eq_of_le (by omega) (by omega)
    refine lv_icmp_gt (tgt := 872) hx hb dL_law_23 (by decide) (fun hc => ?_) (fun hc => ?_)
    · refine lv_iconst (v := 1) hx hb dL_law_872 (by decide) ?_
      refine va_forget (fun q hq => hS.2.2 q hq) ?_
      refine W.widen (k := 600000) (n := 7302250) (by omega) (by omega) ?_
      exact lw_ret hx hb hr hlocks dL_law_873
    · have hiL : i + 5 ≤ Ln := by
        rw [i_lt, e5, i_nI (by omega)] at hc
        omega
      have back : ∀ (H1 : Heap) (locs1 : List Loc) (ls1 : Array Slot) (cells1 slots1 : Nat), cells1 + n ≤ 600000 → slots1 + 8 * n ≤ 7302250 → Inv D cI cJ cO ad B T F K P C Q V (fun q => s.heap.size ≤ q) H1 → va_S (fun q => s.heap.size ≤ q) s.heap H1 locs1 → lv_has ls1 4 (lwl b0 ad i) → W p l e room_1 s m #[Value.ref b0] below meth c H1 locs1 cells1 slots1 (lw_Z below #[Value.ref b0] s) (F0 m 866 ls1 []) := by
        intro H1 locs1 ls1 cells1 slots1 k1 k2 hI hS hl
        refine lv_iinc (v := nI (i + 5)) (lv' := [(3, .int (nI (i + 5))), (0, .ref b0), (1, .ref (ad 0)), (2, .ref (ad 13))]) hx hb dL_law_866 hl (k := 3) rfl (q_add i 5) (by decide) rfl (fun ls hl => ?_)
        refine lv_goto (tgt := 18) hx hb dL_law_869 (by decide) ?_
        exact ih (i + 5) cells1 slots1 H1 locs1 ls (by omega) (by omega) k1 k2 hI hS (lv_sub hl [1, 2, 3, 0] rfl)
      refine lv_aload_n hx hb dL_law_26 rfl (lv_at hl 0 rfl) ?_
      refine lv_iload_n hx hb dL_law_27 rfl (lv_at hl 3 rfl) ?_
      refine va_sld hx hb hX hbl hbA hS (vp_in_nI (by omega) (by omega)) dL_law_28 ?_
      refine lv_bipush (v := 31) hx hb dL_law_29 (by decide) ?_
      refine lv_iand hx hb dL_law_31 ?_
      obtain ⟨j, hj, ej⟩ := and31 (xs (nI i).toNatClampNeg)
      rw [ej]
      match j, hj with
      | 0, _ =>
        refine lv_tableIn (off := 132) (tgt := 164) hx hb dL_law_32 (by decide) (by decide) (by decide) (by decide) ?_
        exact lwc_0 C0 ht hiL hI hS hl (by omega) (by omega) (fun H1 locs1 ls1 hI hS hl => back H1 locs1 ls1 (cells + 1) (slots + 8) (by omega) (by omega) hI hS hl)
      | 1, _ =>
        refine lv_tableIn (off := 175) (tgt := 207) hx hb dL_law_32 (by decide) (by decide) (by decide) (by decide) ?_
        exact lwc_1 C0 ht hiL hI hS hl (by omega) (by omega) (fun H1 locs1 ls1 hI hS hl => back H1 locs1 ls1 (cells + 1) (slots + 8) (by omega) (by omega) hI hS hl)
      | 2, _ =>
        refine lv_tableIn (off := 208) (tgt := 240) hx hb dL_law_32 (by decide) (by decide) (by decide) (by decide) ?_
        exact lwc_2 C0 ht hiL hI hS hl (by omega) (by omega) (fun H1 locs1 ls1 hI hS hl => back H1 locs1 ls1 (cells + 1) (slots + 8) (by omega) (by omega) hI hS hl)
      | 3, _ =>
        refine lv_tableIn (off := 241) (tgt := 273) hx hb dL_law_32 (by decide) (by decide) (by decide) (by decide) ?_
        exact lwc_3 C0 ht hiL hI hS hl (by omega) (by omega) (fun H1 locs1 ls1 hI hS hl => back H1 locs1 ls1 (cells + 1) (slots + 8) (by omega) (by omega) hI hS hl)
      | 4, _ =>
        refine lv_tableIn (off := 264) (tgt := 296) hx hb dL_law_32 (by decide) (by decide) (by decide) (by decide) ?_
        exact lwc_4 C0 ht hiL hI hS hl (by omega) (by omega) (fun H1 locs1 ls1 hI hS hl => back H1 locs1 ls1 (cells + 1) (slots + 8) (by omega) (by omega) hI hS hl)
      | 5, _ =>
        refine lv_tableIn (off := 297) (tgt := 329) hx hb dL_law_32 (by decide) (by decide) (by decide) (by decide) ?_
        exact lwc_5 C0 ht hiL hI hS hl (by omega) (by omega) (fun H1 locs1 ls1 hI hS hl => back H1 locs1 ls1 (cells + 1) (slots + 8) (by omega) (by omega) hI hS hl)
      | 6, _ =>
        refine lv_tableIn (off := 350) (tgt := 382) hx hb dL_law_32 (by decide) (by decide) (by decide) (by decide) ?_
        exact lwc_6 C0 ht hiL hI hS hl (by omega) (by omega) (fun H1 locs1 ls1 hI hS hl => back H1 locs1 ls1 (cells + 1) (slots + 8) (by omega) (by omega) hI hS hl)
      | 7, _ =>
        refine lv_tableIn (off := 363) (tgt := 395) hx hb dL_law_32 (by decide) (by decide) (by decide) (by decide) ?_
        exact lwc_7 C0 ht hiL hI hS hl (by omega) (by omega) (fun H1 locs1 ls1 hI hS hl => back H1 locs1 ls1 (cells + 1) (slots + 8) (by omega) (by omega) hI hS hl)
      | 8, _ =>
        refine lv_tableIn (off := 386) (tgt := 418) hx hb dL_law_32 (by decide) (by decide) (by decide) (by decide) ?_
        exact lwc_8 C0 ht hiL hI hS hl (by omega) (by omega) (fun H1 locs1 ls1 hI hS hl => back H1 locs1 ls1 (cells + 1) (slots + 8) (by omega) (by omega) hI hS hl)
      | 9, _ =>
        refine lv_tableIn (off := 399) (tgt := 431) hx hb dL_law_32 (by decide) (by decide) (by decide) (by decide) ?_
        exact lwc_9 C0 ht hiL hI hS hl (by omega) (by omega) (fun H1 locs1 ls1 hI hS hl => back H1 locs1 ls1 (cells + 1) (slots + 8) (by omega) (by omega) hI hS hl)
      | 10, _ =>
        refine lv_tableIn (off := 413) (tgt := 445) hx hb dL_law_32 (by decide) (by decide) (by decide) (by decide) ?_
        exact lwc_10 C0 ht hiL hI hS hl (by omega) (by omega) (fun H1 locs1 ls1 hI hS hl => back H1 locs1 ls1 (cells + 1) (slots + 8) (by omega) (by omega) hI hS hl)
      | 11, _ =>
        refine lv_tableIn (off := 446) (tgt := 478) hx hb dL_law_32 (by decide) (by decide) (by decide) (by decide) ?_
        exact lwc_11 C0 ht hiL hI hS hl (by omega) (by omega) (fun H1 locs1 ls1 hI hS hl => back H1 locs1 ls1 (cells + 1) (slots + 8) (by omega) (by omega) hI hS hl)
      | 12, _ =>
        refine lv_tableIn (off := 469) (tgt := 501) hx hb dL_law_32 (by decide) (by decide) (by decide) (by decide) ?_
        exact lwc_12 C0 ht hiL hI hS hl (by omega) (by omega) (fun H1 locs1 ls1 hI hS hl => back H1 locs1 ls1 (cells + 1) (slots + 8) (by omega) (by omega) hI hS hl)
      | 13, _ =>
        refine lv_tableIn (off := 482) (tgt := 514) hx hb dL_law_32 (by decide) (by decide) (by decide) (by decide) ?_
        exact lwc_13 C0 ht hiL hI hS hl (by omega) (by omega) (fun H1 locs1 ls1 hI hS hl => back H1 locs1 ls1 (cells + 1) (slots + 8) (by omega) (by omega) hI hS hl)
      | 14, _ =>
        refine lv_tableIn (off := 496) (tgt := 528) hx hb dL_law_32 (by decide) (by decide) (by decide) (by decide) ?_
        exact lwc_14 C0 ht hiL hI hS hl (by omega) (by omega) (fun H1 locs1 ls1 hI hS hl => back H1 locs1 ls1 (cells + 1) (slots + 8) (by omega) (by omega) hI hS hl)
      | 15, _ =>
        refine lv_tableIn (off := 549) (tgt := 581) hx hb dL_law_32 (by decide) (by decide) (by decide) (by decide) ?_
        exact lwc_15 C0 ht hiL hI hS hl (by omega) (by omega) (fun H1 locs1 ls1 hI hS hl => back H1 locs1 ls1 (cells + 1) (slots + 8) (by omega) (by omega) hI hS hl)
      | 16, _ =>
        refine lv_tableIn (off := 572) (tgt := 604) hx hb dL_law_32 (by decide) (by decide) (by decide) (by decide) ?_
        exact lwc_16 C0 ht hiL hI hS hl (by omega) (by omega) (fun H1 locs1 ls1 hI hS hl => back H1 locs1 ls1 (cells + 1) (slots + 8) (by omega) (by omega) hI hS hl)
      | 17, _ =>
        refine lv_tableIn (off := 626) (tgt := 658) hx hb dL_law_32 (by decide) (by decide) (by decide) (by decide) ?_
        exact lwc_17 C0 ht hiL hI hS hl (by omega) (by omega) (fun H1 locs1 ls1 hI hS hl => back H1 locs1 ls1 (cells + 1) (slots + 8) (by omega) (by omega) hI hS hl)
      | 18, _ =>
        refine lv_tableIn (off := 639) (tgt := 671) hx hb dL_law_32 (by decide) (by decide) (by decide) (by decide) ?_
        exact lwc_18 C0 ht hiL hI hS hl (by omega) (by omega) (fun H1 locs1 ls1 hI hS hl => back H1 locs1 ls1 (cells + 1) (slots + 8) (by omega) (by omega) hI hS hl)
      | 19, _ =>
        refine lv_tableIn (off := 652) (tgt := 684) hx hb dL_law_32 (by decide) (by decide) (by decide) (by decide) ?_
        exact lwc_19 C0 ht hiL hI hS hl (by omega) (by omega) (fun H1 locs1 ls1 hI hS hl => back H1 locs1 ls1 (cells + 1) (slots + 8) (by omega) (by omega) hI hS hl)
      | 20, _ =>
        refine lv_tableIn (off := 665) (tgt := 697) hx hb dL_law_32 (by decide) (by decide) (by decide) (by decide) ?_
        exact lwc_20 C0 ht hiL hI hS hl (by omega) (by omega) (fun H1 locs1 ls1 hI hS hl => back H1 locs1 ls1 (cells + 1) (slots + 8) (by omega) (by omega) hI hS hl)
      | 21, _ =>
        refine lv_tableIn (off := 678) (tgt := 710) hx hb dL_law_32 (by decide) (by decide) (by decide) (by decide) ?_
        exact lwc_21 C0 ht hiL hI hS hl (by omega) (by omega) (fun H1 locs1 ls1 hI hS hl => back H1 locs1 ls1 (cells + 1) (slots + 8) (by omega) (by omega) hI hS hl)
      | 22, _ =>
        refine lv_tableIn (off := 691) (tgt := 723) hx hb dL_law_32 (by decide) (by decide) (by decide) (by decide) ?_
        exact lwc_22 C0 ht hiL hI hS hl (by omega) (by omega) (fun H1 locs1 ls1 hI hS hl => back H1 locs1 ls1 (cells + 1) (slots + 8) (by omega) (by omega) hI hS hl)
      | 23, _ =>
        refine lv_tableIn (off := 714) (tgt := 746) hx hb dL_law_32 (by decide) (by decide) (by decide) (by decide) ?_
        exact lwc_23 C0 ht hiL hI hS hl (by omega) (by omega) (fun H1 locs1 ls1 hI hS hl => back H1 locs1 ls1 (cells + 1) (slots + 8) (by omega) (by omega) hI hS hl)
      | 24, _ =>
        refine lv_tableIn (off := 727) (tgt := 759) hx hb dL_law_32 (by decide) (by decide) (by decide) (by decide) ?_
        exact lwc_24 C0 ht hiL hI hS hl (by omega) (by omega) (fun H1 locs1 ls1 hI hS hl => back H1 locs1 ls1 (cells + 1) (slots + 8) (by omega) (by omega) hI hS hl)
      | 25, _ =>
        refine lv_tableIn (off := 740) (tgt := 772) hx hb dL_law_32 (by decide) (by decide) (by decide) (by decide) ?_
        exact lwc_25 C0 ht hiL hI hS hl (by omega) (by omega) (fun H1 locs1 ls1 hI hS hl => back H1 locs1 ls1 (cells + 1) (slots + 8) (by omega) (by omega) hI hS hl)
      | 26, _ =>
        refine lv_tableIn (off := 754) (tgt := 786) hx hb dL_law_32 (by decide) (by decide) (by decide) (by decide) ?_
        exact lwc_26 C0 ht hiL hI hS hl (by omega) (by omega) (fun H1 locs1 ls1 hI hS hl => back H1 locs1 ls1 (cells + 1) (slots + 8) (by omega) (by omega) hI hS hl)
      | 27, _ =>
        refine lv_tableIn (off := 768) (tgt := 800) hx hb dL_law_32 (by decide) (by decide) (by decide) (by decide) ?_
        exact lwc_27 C0 ht hiL hI hS hl (by omega) (by omega) (fun H1 locs1 ls1 hI hS hl => back H1 locs1 ls1 (cells + 1) (slots + 8) (by omega) (by omega) hI hS hl)
      | 28, _ =>
        refine lv_tableIn (off := 821) (tgt := 853) hx hb dL_law_32 (by decide) (by decide) (by decide) (by decide) ?_
        exact lwc_28 C0 ht hiL hI hS hl (by omega) (by omega) (fun H1 locs1 ls1 hI hS hl => back H1 locs1 ls1 (cells + 1) (slots + 8) (by omega) (by omega) hI hS hl)
      | 29, _ =>
        refine lv_tableOut (tgt := 866) hx hb dL_law_32 (by decide) (by decide) ?_
        exact back H locs ls cells slots (by omega) (by omega) hI hS hl
      | 30, _ =>
        refine lv_tableOut (tgt := 866) hx hb dL_law_32 (by decide) (by decide) ?_
        exact back H locs ls cells slots (by omega) (by omega) hI hS hl
      | 31, _ =>
        refine lv_tableOut (tgt := 866) hx hb dL_law_32 (by decide) (by decide) ?_
        exact back H locs ls cells slots (by omega) (by omega) hI hS hl
      | j + 32, hj => omega
theorem x_init : ∃ B Q V, fX9_init = some (B, Q, V, (0 : Int32), (1 : Int64), gf (0, 0, 0, 0, 0)) ∧ TB B ∧ TQ Q ∧ TK V := by
  obtain ⟨B, Q, V, e, hB, hQ, hVt⟩ := q_xdesk
  refine ⟨B, Q, V, ?_, hB, hQ, hVt⟩
  unfold fX9_init
  rw [e, Option.bind_some]
  rfl
set_option maxHeartbeats 4000000 in
set_option maxRecDepth 100000 in
theorem whole_start {p : Program} {e : Env} {s : State} {m : MethodId} {below : List Frame} {meth : Method} {c : Code} (l : Launch) (hflags : l.flags = flags0) {b L : Nat} {xs : Nat → Int32} (hL : L ≤ 2560) (C0 : lw_At p s m meth c b L xs) : W p l e room_1 s m #[Value.ref b] below meth c s.heap [] 0 0 (lw_Z below #[Value.ref b] s) (entryFrame m ([Value.ref b] : List Value).toArray 4) := by
  obtain ⟨hx, hb, hr, hml, hown, hts, hX, hbl, hlocks, hgv⟩ := id C0
  obtain ⟨D, cI, cJ, cO, hV⟩ := law_V hts
  have htc : ∀ w ∈ rk_c, w.before #[Value.ref b] s = true := fun w h => hts w (List.mem_filter.mp h).1
  have hown : s.vm.findClass RL = some m.cls := hown
  have hF : CallFix p m c code 4 s #[Value.ref b] rk_c RL := ⟨hx, hb, hml, hown, htc⟩
  have hA : ∀ q : Nat, s.heap.size ≤ q → (fun q : Nat => s.heap.size ≤ q) q := fun _ h => h
  have hbA : ¬ (fun q : Nat => s.heap.size ≤ q) b := Nat.not_le.mpr hbl
  have hS : va_S (fun q : Nat => s.heap.size ≤ q) s.heap s.heap [] := va_S.rf
  have hP : va_P D vwCl [] s.heap := rk_nilP
  have hD : va_D (fun q : Nat => s.heap.size ≤ q) [] := ⟨fun i j p q h => by simp at h, fun k q h => by simp at h⟩
  have hn0 : ∀ (k : Nat) (q : Nat × va_E), ([] : va_W)[k]? = some q → ¬ (fun q : Nat => s.heap.size ≤ q) q.1 := fun k q h => by simp at h
  obtain ⟨B, Q, V, e9, hB, hQ, hVt⟩ := x_init
  obtain ⟨T, F, K, P, C, e10, hT, hFc, hK, hPt, hC⟩ := q_minit
  have ht : TT B T F K P C Q V := ⟨hB, hQ, hT, hFc, hK, hPt, hC, hVt⟩
  have hl := lv_entry ([.ref b]) (n := 4) (Nat.le_of_ble_eq_true rfl)
  rw [lg_entry_eq]
  generalize (lg_sl ([.ref b]) ++ List.replicate (4 - (lg_sl ([.ref b])).length) Slot.unset).toArray = ls at hl ⊢
  have hl : lv_has ls 4 [(0, .ref b)] := hl
  refine va_new (ci := 8) (fs := [.null, .null, .null, .null, .null]) (C := RX9) (T := TX9) (N := 5) hx hb htc inX9 tyX9 tyX9_ok hown (htc _ w_1_15) (htc _ w_1_16) (htc _ w_1_1) hV.1 hP hD hS hA rfl (fun j hj => by rcases (show j = 0 ∨ j = 1 ∨ j = 2 ∨ j = 3 ∨ j = 4 by omega) with rfl | rfl | rfl | rfl | rfl <;> rfl) (Nat.le_of_ble_eq_true rfl) (Nat.le_of_ble_eq_true rfl) dL_law_0 (fun q_0 H hP hD hS => ?_)
  have hP : va_P D vwCl [(q_0, .inr (8, [.null, .null, .null, .null, .null]))] H := hP
  have hD : va_D (fun q : Nat => s.heap.size ≤ q) [(q_0, .inr (8, [.null, .null, .null, .null, .null]))] := hD
  refine lv_dup hx hb dL_law_3 rfl ?_
  refine rk_ve (wr := []) (va_runI (As := []) (rest := [.ref q_0]) hF (mtX9_init l D cI cJ cO [] _ q_0 (B, Q, V, (0 : Int32), (1 : Int64), gf (0, 0, 0, 0, 0)) e9) (cwI 0 htc (rk_gw w_1_19) rfl rfl rfl (htc _ w_1_1) (htc _ w_1_17) (htc _ w_1_18) rfl (by decide +kernel) ⟨Nat.le_of_ble_eq_true rfl, Nat.le_of_ble_eq_true rfl⟩) (rk_preS hP hD hS rk_nilP hn0 rk_nilP hn0 hV [0] [] rfl (by decide) rfl (by decide)) rfl rfl hl.1 rfl (lv_room (Nat.le_of_ble_eq_true rfl)) dL_law_4 ⟨Nat.le_of_ble_eq_true rfl, Nat.le_of_ble_eq_true rfl⟩) hP hD hS hA rk_nilP hn0 [0] [] rfl rfl (by decide) (by decide) (fun g H locs hP hD hS hR => ?_)
  have hP : va_P D vwCl [(q_0, .inr (8, [.ref (g 0), .ref (g 1), .ref (g 2), .ref (g 10), .ref (g 13)])), ((g 0), .inl (cI, 60, .inl rk_z32)), ((g 1), .inl (cI, 60, .inl rk_z32)), ((g 2), .inr (2, [.ref (g 3), .ref (g 4), .ref (g 5), .ref (g 6), .ref (g 7), .ref (g 8), .ref (g 9)])), ((g 3), .inl (cJ, 1891, .inr (.inl B))), ((g 4), .inl (cI, 1891, .inl Q)), ((g 5), .inl (cJ, 31, .inr (.inl V))), ((g 6), .inl (cI, 60, .inl rk_z32)), ((g 7), .inl (cI, 60, .inl rk_z32)), ((g 8), .inl (cJ, 60, .inr (.inl rk_z64))), ((g 9), .inl (cI, 4, .inl rk_z32)), ((g 10), .inr (0, [.ref (g 11), .ref (g 12), .int 0, .long 1])), ((g 11), .inl (cO, 10, .inr (.inr (.inr (.inr rk_zO))))), ((g 12), .inl (cJ, 10, .inr (.inl rk_z64))), ((g 13), rk_fam (gf (0, 0, 0, 0, 0)))] H := hP
  have hD : va_D (fun q : Nat => s.heap.size ≤ q) [(q_0, .inr (8, [.ref (g 0), .ref (g 1), .ref (g 2), .ref (g 10), .ref (g 13)])), ((g 0), .inl (cI, 60, .inl rk_z32)), ((g 1), .inl (cI, 60, .inl rk_z32)), ((g 2), .inr (2, [.ref (g 3), .ref (g 4), .ref (g 5), .ref (g 6), .ref (g 7), .ref (g 8), .ref (g 9)])), ((g 3), .inl (cJ, 1891, .inr (.inl B))), ((g 4), .inl (cI, 1891, .inl Q)), ((g 5), .inl (cJ, 31, .inr (.inl V))), ((g 6), .inl (cI, 60, .inl rk_z32)), ((g 7), .inl (cI, 60, .inl rk_z32)), ((g 8), .inl (cJ, 60, .inr (.inl rk_z64))), ((g 9), .inl (cI, 4, .inl rk_z32)), ((g 10), .inr (0, [.ref (g 11), .ref (g 12), .int 0, .long 1])), ((g 11), .inl (cO, 10, .inr (.inr (.inr (.inr rk_zO))))), ((g 12), .inl (cJ, 10, .inr (.inl rk_z64))), ((g 13), rk_fam (gf (0, 0, 0, 0, 0)))] := hD
  refine lv_astore_n (lv' := [(1, .ref q_0), (0, .ref b)]) hx hb dL_law_7 rfl hl (by decide) rfl (fun ls hl => ?_)
  refine va_new (ci := 9) (fs := [.null, .null, .null, .null, .null, .int 0, .null, .null, .null, .null, .null, .null, .null, .int 0, .null, .null, .null]) (C := RX10) (T := TX10) (N := 17) hx hb htc inX10 tyX10 tyX10_ok hown (htc _ w_3_224) (htc _ w_3_225) (htc _ w_1_7) hV.1 hP hD hS hA rfl (fun j hj => by rcases (show j = 0 ∨ j = 1 ∨ j = 2 ∨ j = 3 ∨ j = 4 ∨ j = 5 ∨ j = 6 ∨ j = 7 ∨ j = 8 ∨ j = 9 ∨ j = 10 ∨ j = 11 ∨ j = 12 ∨ j = 13 ∨ j = 14 ∨ j = 15 ∨ j = 16 by omega) with rfl | rfl | rfl | rfl | rfl | rfl | rfl | rfl | rfl | rfl | rfl | rfl | rfl | rfl | rfl | rfl | rfl <;> rfl) (Nat.le_of_ble_eq_true rfl) (Nat.le_of_ble_eq_true rfl) dL_law_8 (fun q_8 H hP hD hS => ?_)
  have hP : va_P D vwCl [(q_0, .inr (8, [.ref (g 0), .ref (g 1), .ref (g 2), .ref (g 10), .ref (g 13)])), ((g 0), .inl (cI, 60, .inl rk_z32)), ((g 1), .inl (cI, 60, .inl rk_z32)), ((g 2), .inr (2, [.ref (g 3), .ref (g 4), .ref (g 5), .ref (g 6), .ref (g 7), .ref (g 8), .ref (g 9)])), ((g 3), .inl (cJ, 1891, .inr (.inl B))), ((g 4), .inl (cI, 1891, .inl Q)), ((g 5), .inl (cJ, 31, .inr (.inl V))), ((g 6), .inl (cI, 60, .inl rk_z32)), ((g 7), .inl (cI, 60, .inl rk_z32)), ((g 8), .inl (cJ, 60, .inr (.inl rk_z64))), ((g 9), .inl (cI, 4, .inl rk_z32)), ((g 10), .inr (0, [.ref (g 11), .ref (g 12), .int 0, .long 1])), ((g 11), .inl (cO, 10, .inr (.inr (.inr (.inr rk_zO))))), ((g 12), .inl (cJ, 10, .inr (.inl rk_z64))), ((g 13), rk_fam (gf (0, 0, 0, 0, 0))), (q_8, .inr (9, [.null, .null, .null, .null, .null, .int 0, .null, .null, .null, .null, .null, .null, .null, .int 0, .null, .null, .null]))] H := hP
  have hD : va_D (fun q : Nat => s.heap.size ≤ q) [(q_0, .inr (8, [.ref (g 0), .ref (g 1), .ref (g 2), .ref (g 10), .ref (g 13)])), ((g 0), .inl (cI, 60, .inl rk_z32)), ((g 1), .inl (cI, 60, .inl rk_z32)), ((g 2), .inr (2, [.ref (g 3), .ref (g 4), .ref (g 5), .ref (g 6), .ref (g 7), .ref (g 8), .ref (g 9)])), ((g 3), .inl (cJ, 1891, .inr (.inl B))), ((g 4), .inl (cI, 1891, .inl Q)), ((g 5), .inl (cJ, 31, .inr (.inl V))), ((g 6), .inl (cI, 60, .inl rk_z32)), ((g 7), .inl (cI, 60, .inl rk_z32)), ((g 8), .inl (cJ, 60, .inr (.inl rk_z64))), ((g 9), .inl (cI, 4, .inl rk_z32)), ((g 10), .inr (0, [.ref (g 11), .ref (g 12), .int 0, .long 1])), ((g 11), .inl (cO, 10, .inr (.inr (.inr (.inr rk_zO))))), ((g 12), .inl (cJ, 10, .inr (.inl rk_z64))), ((g 13), rk_fam (gf (0, 0, 0, 0, 0))), (q_8, .inr (9, [.null, .null, .null, .null, .null, .int 0, .null, .null, .null, .null, .null, .null, .null, .int 0, .null, .null, .null]))] := hD
  refine lv_dup hx hb dL_law_11 rfl ?_
  refine rk_ve (wr := [(q_0, .inr (8, [.ref (g 0), .ref (g 1), .ref (g 2), .ref (g 10), .ref (g 13)])), ((g 0), .inl (cI, 60, .inl rk_z32)), ((g 1), .inl (cI, 60, .inl rk_z32)), ((g 2), .inr (2, [.ref (g 3), .ref (g 4), .ref (g 5), .ref (g 6), .ref (g 7), .ref (g 8), .ref (g 9)])), ((g 3), .inl (cJ, 1891, .inr (.inl B))), ((g 4), .inl (cI, 1891, .inl Q)), ((g 5), .inl (cJ, 31, .inr (.inl V))), ((g 6), .inl (cI, 60, .inl rk_z32)), ((g 7), .inl (cI, 60, .inl rk_z32)), ((g 8), .inl (cJ, 60, .inr (.inl rk_z64))), ((g 9), .inl (cI, 4, .inl rk_z32)), ((g 10), .inr (0, [.ref (g 11), .ref (g 12), .int 0, .long 1])), ((g 11), .inl (cO, 10, .inr (.inr (.inr (.inr rk_zO))))), ((g 12), .inl (cJ, 10, .inr (.inl rk_z64))), ((g 13), rk_fam (gf (0, 0, 0, 0, 0)))]) (va_runI (As := []) (rest := [.ref q_8]) hF (mtX10_init l D cI cJ cO [] _ q_8 (T, F, K, P, C) e10) (cwI 0 htc (rk_gw w_3_228) rfl rfl rfl (htc _ w_1_7) (htc _ w_3_226) (htc _ w_3_227) rfl (by decide +kernel) ⟨Nat.le_of_ble_eq_true rfl, Nat.le_of_ble_eq_true rfl⟩) (rk_preS hP hD hS rk_nilP hn0 rk_nilP hn0 hV [15] [] rfl (by decide) rfl (by decide)) rfl rfl hl.1 rfl (lv_room (Nat.le_of_ble_eq_true rfl)) dL_law_12 ⟨Nat.le_of_ble_eq_true rfl, Nat.le_of_ble_eq_true rfl⟩) hP hD hS hA rk_nilP hn0 [15] [0, 1, 2, 3, 4, 5, 6, 7, 8, 9, 10, 11, 12, 13, 14] rfl rfl (by decide) (by decide) (fun h H locs hP hD hS hR => ?_)
  have hP : va_P D vwCl ([(q_0, .inr (8, [.ref (g 0), .ref (g 1), .ref (g 2), .ref (g 10), .ref (g 13)])), ((g 0), .inl (cI, 60, .inl rk_z32)), ((g 1), .inl (cI, 60, .inl rk_z32)), ((g 2), .inr (2, [.ref (g 3), .ref (g 4), .ref (g 5), .ref (g 6), .ref (g 7), .ref (g 8), .ref (g 9)])), ((g 3), .inl (cJ, 1891, .inr (.inl B))), ((g 4), .inl (cI, 1891, .inl Q)), ((g 5), .inl (cJ, 31, .inr (.inl V))), ((g 6), .inl (cI, 60, .inl rk_z32)), ((g 7), .inl (cI, 60, .inl rk_z32)), ((g 8), .inl (cJ, 60, .inr (.inl rk_z64))), ((g 9), .inl (cI, 4, .inl rk_z32)), ((g 10), .inr (0, [.ref (g 11), .ref (g 12), .int 0, .long 1])), ((g 11), .inl (cO, 10, .inr (.inr (.inr (.inr rk_zO))))), ((g 12), .inl (cJ, 10, .inr (.inl rk_z64))), ((g 13), rk_fam (gf (0, 0, 0, 0, 0)))] ++ [(q_8, .inr (9, [.ref (h 0), .ref (h 1), .ref (h 2), .ref (h 13), .ref (h 14), .int 0, .ref (h 3), .ref (h 4), .ref (h 5), .ref (h 6), .ref (h 7), .ref (h 8), .ref (h 9), .int 0, .ref (h 10), .ref (h 11), .ref (h 12)])), ((h 0), .inl (cJ, 3721, .inr (.inl T))), ((h 1), .inl (cJ, 21, .inr (.inl F))), ((h 2), .inl (cJ, 31, .inr (.inl K))), ((h 3), .inl (cI, 4, .inl rk_z32)), ((h 4), .inl (cI, 60, .inl rk_z32)), ((h 5), .inl (cI, 60, .inl rk_z32)), ((h 6), .inl (cI, 64, .inl rk_z32)), ((h 7), .inl (cI, 64, .inl rk_z32)), ((h 8), .inl (cJ, 64, .inr (.inl rk_z64))), ((h 9), .inl (cI, 4, .inl rk_z32)), ((h 10), .inl (cI, 10, .inl rk_z32)), ((h 11), .inl (cI, 40, .inl rk_z32)), ((h 12), .inl (cJ, 10, .inr (.inl rk_z64))), ((h 13), .inl (cJ, 3721, .inr (.inl P))), ((h 14), .inl (cJ, 1722, .inr (.inl C)))]) H := hP
  have hD : va_D (fun q : Nat => s.heap.size ≤ q) ([(q_0, .inr (8, [.ref (g 0), .ref (g 1), .ref (g 2), .ref (g 10), .ref (g 13)])), ((g 0), .inl (cI, 60, .inl rk_z32)), ((g 1), .inl (cI, 60, .inl rk_z32)), ((g 2), .inr (2, [.ref (g 3), .ref (g 4), .ref (g 5), .ref (g 6), .ref (g 7), .ref (g 8), .ref (g 9)])), ((g 3), .inl (cJ, 1891, .inr (.inl B))), ((g 4), .inl (cI, 1891, .inl Q)), ((g 5), .inl (cJ, 31, .inr (.inl V))), ((g 6), .inl (cI, 60, .inl rk_z32)), ((g 7), .inl (cI, 60, .inl rk_z32)), ((g 8), .inl (cJ, 60, .inr (.inl rk_z64))), ((g 9), .inl (cI, 4, .inl rk_z32)), ((g 10), .inr (0, [.ref (g 11), .ref (g 12), .int 0, .long 1])), ((g 11), .inl (cO, 10, .inr (.inr (.inr (.inr rk_zO))))), ((g 12), .inl (cJ, 10, .inr (.inl rk_z64))), ((g 13), rk_fam (gf (0, 0, 0, 0, 0)))] ++ [(q_8, .inr (9, [.ref (h 0), .ref (h 1), .ref (h 2), .ref (h 13), .ref (h 14), .int 0, .ref (h 3), .ref (h 4), .ref (h 5), .ref (h 6), .ref (h 7), .ref (h 8), .ref (h 9), .int 0, .ref (h 10), .ref (h 11), .ref (h 12)])), ((h 0), .inl (cJ, 3721, .inr (.inl T))), ((h 1), .inl (cJ, 21, .inr (.inl F))), ((h 2), .inl (cJ, 31, .inr (.inl K))), ((h 3), .inl (cI, 4, .inl rk_z32)), ((h 4), .inl (cI, 60, .inl rk_z32)), ((h 5), .inl (cI, 60, .inl rk_z32)), ((h 6), .inl (cI, 64, .inl rk_z32)), ((h 7), .inl (cI, 64, .inl rk_z32)), ((h 8), .inl (cJ, 64, .inr (.inl rk_z64))), ((h 9), .inl (cI, 4, .inl rk_z32)), ((h 10), .inl (cI, 10, .inl rk_z32)), ((h 11), .inl (cI, 40, .inl rk_z32)), ((h 12), .inl (cJ, 10, .inr (.inl rk_z64))), ((h 13), .inl (cJ, 3721, .inr (.inl P))), ((h 14), .inl (cJ, 1722, .inr (.inl C)))]) := hD
  refine lv_astore_n (lv' := [(2, .ref q_8), (1, .ref q_0), (0, .ref b)]) hx hb dL_law_15 rfl hl (by decide) rfl (fun ls hl => ?_)
  refine lv_iconst (v := 0) hx hb dL_law_16 (by decide) ?_
  refine lv_istore_n (lv' := [(3, .int 0), (2, .ref q_8), (1, .ref q_0), (0, .ref b)]) hx hb dL_law_17 rfl hl (by decide) rfl (fun ls hl => ?_)
  obtain ⟨ad, had⟩ : ∃ ad : Nat → Nat, ad = rk_qs [q_0, g 0, g 1, g 2, g 3, g 4, g 6, g 7, g 8, g 9, g 10, g 11, g 12, q_8, h 0, h 1, h 2, h 3, h 4, h 5, h 6, h 7, h 8, h 9, h 10, h 11, h 12, h 13, h 14, g 5] := ⟨_, rfl⟩
  have hP : va_P D vwCl (wld cI cJ cO ad (g 13) rk_z32 rk_z32 rk_z32 rk_z32 rk_z64 rk_z32 0 1 rk_zO rk_z64 B Q (nI (0, 0, 0, 0, 0).1) 0 rk_z32 rk_z32 rk_z32 rk_z32 rk_z32 rk_z64 rk_z32 rk_z32 rk_z32 rk_z64 T F K P C V ++ rk_pl [g 13] (fun _ => gf (0, 0, 0, 0, 0))) H := by subst had; exact hP.sub [0, 1, 2, 3, 4, 5, 7, 8, 9, 10, 11, 12, 13, 15, 16, 17, 18, 19, 20, 21, 22, 23, 24, 25, 26, 27, 28, 29, 30, 6, 14] rfl
  have hD : va_D (fun q : Nat => s.heap.size ≤ q) (wld cI cJ cO ad (g 13) rk_z32 rk_z32 rk_z32 rk_z32 rk_z64 rk_z32 0 1 rk_zO rk_z64 B Q (nI (0, 0, 0, 0, 0).1) 0 rk_z32 rk_z32 rk_z32 rk_z32 rk_z32 rk_z64 rk_z32 rk_z32 rk_z32 rk_z64 T F K P C V ++ rk_pl [g 13] (fun _ => gf (0, 0, 0, 0, 0))) := by subst had; exact hD.sub [0, 1, 2, 3, 4, 5, 7, 8, 9, 10, 11, 12, 13, 15, 16, 17, 18, 19, 20, 21, 22, 23, 24, 25, 26, 27, 28, 29, 30, 6, 14] (by decide) rfl
  have hI : Inv D cI cJ cO ad B T F K P C Q V (fun q : Nat => s.heap.size ≤ q) H := ⟨[g 13], fun _ => gf (0, 0, 0, 0, 0), g 13, rk_z32, rk_z32, rk_z32, rk_z32, rk_z32, rk_z32, rk_z32, rk_z32, rk_z32, rk_z32, rk_z32, rk_z32, rk_z64, rk_z64, rk_z64, rk_z64, 0, 0, 1, rk_zO, (0, 0, 0, 0, 0), ⟨by decide, by decide, by decide, rfl⟩, ⟨rfl, rfl, rfl, rfl⟩, List.mem_singleton.mpr rfl, rfl, ⟨fun _ => ((0, 0, 0, 0, 0), 0), 0, by decide, rfl, rfl, rfl, by decide, fun e he => absurd he (Nat.not_lt_zero e), fun e he => absurd he (Nat.not_lt_zero e)⟩, hP, hD⟩
  have hl : lv_has ls 4 (lwl b ad 0) := by subst had; exact lv_sub hl [3, 2, 1, 0] rfl
  refine W.widen (k := 31) (n := 14100) (by decide) (by decide) ?_
  exact law_loop ⟨hx, hb, hF, hV, hX, hbl, hbA, hA, hL⟩ hr hlocks ht 515 0 31 14100 H _ ls (by omega) (by omega) (by omega) (by omega) hI hS hl
