set_option maxHeartbeats 4000000 in
set_option maxRecDepth 100000 in
theorem mtX3_turnedFamily (l : Launch) (D : va_G) (cI cJ cO : ClassId) (PL : va_W) (sz : Nat) (a_this : Nat) : Met l yX3_turnedFamily (rk_w yX3_turnedFamily cX3_turnedFamily 1 (some (.object "EnumerativeCoder$Family"))) { frames := 0, cells := 0, slots := 0, locals := 0 } (va_Pc [.ref a_this] (rk_B D (rk_TY cI cJ cO) [] [] PL sz)) (rk_Qq (some a_this) D [] [] sz) 0 0 (va_A [] sz) := by
  refine rk_metq (g := some (some a_this)) rfl (fun x => x) (fun _ => []) (by decide) (Nat.le_of_ble_eq_true rfl) ?_
  intro p e s m args below meth c A ls Q hret hname hF hP hD hA hV hR0 hn hPL hnl hl h hS
  have hx := hF.1
  have hb := hF.2.1
  have hl : lv_has ls 1 [(0, .ref a_this)] := hl
  refine lv_aload_n hx hb dX3_turnedFamily_0 rfl (lv_at hl 0 rfl) ?_
  exact hret (some a_this) _ _ _ _ rfl dX3_turnedFamily_1 hP hD hS
set_option maxHeartbeats 4000000 in
set_option maxRecDepth 100000 in
theorem vr_turned {p : Program} {l : Launch} {e : Env} {R : Room} {s : State} {m : MethodId} {args : Array Value} {below : List Frame} {meth : Method} {c : Code} {H : Heap} {locs : List Loc} {cells slots : Nat} {cc : ByteArray} {nL : Nat} {own : String} {index : Nat} {g : JFrame} {rest : List Value} {F : Fm} {a : Nat} (hF : CallFix p m c cc nL s args rk_c own) (htc : ∀ w ∈ rk_c, w.before args s = true) {D' : va_G} {cI' cJ' cO' : ClassId} (hV : rk_V D' (rk_TY cI' cJ' cO') s) (hlk : Cond.methodLink own index ⟨"EnumerativeCoder$Family", "turnedFamily", "()LEnumerativeCoder$Family;"⟩ ∈ rk_c) (D : va_G) (cI cJ cO : ClassId) (PL : va_W) (hkind : ¬ F.1 = 0) (hcell : va_at D' vwCl (a, rk_fam F) H) (hp : PreS s H (va_Pc [.ref a] (rk_B D (rk_TY cI cJ cO) [] [] PL H.size)) [.ref a]) (hg : g.method = m) (hn : ([] : List Value).length = 0) (hsize : g.locals.size = nL) (hstack : g.stack = ([] : List Value).reverse ++ .ref a :: rest) (hW : 2 * g.monitorRoom + (rest.map fun v => v.category).sum ≤ 8) (hdg : decode cc g.pc = .ok (.invokevirtual index, 3)) (hf : cells + 0 ≤ R.cells ∧ slots + 0 ≤ R.slots) (hfr : 1 ≤ R.frames) (hlo : 20 ≤ R.locals) : va_Run p l e R s m args below meth c H locs cells slots 0 0 g rest (rk_Qq (some a) D [] [] H.size #[Value.ref a]) (va_A [] H.size) := by
  by_cases k1 : F.1 = 1
  · rw [rk_fam_1 k1] at hcell
    exact va_runU (C := RX5) (owner := "EnumerativeCoder$Family") (As := []) hF (mtX3_turnedFamily l D cI cJ cO PL H.size a) (va_cwU 0 htc (rk_gU hlk w_3_79 w_3_82 w_3_78 w_1_5 w_3_90) rfl rfl rfl rfl (by decide +kernel) ⟨hfr, hlo⟩) (rk_preV (va_recv hV.1 (rk_oneP hcell) (ci := 4) (q0 := 0) rfl rfl) hp) hg hn hsize hstack hW hdg hf
  by_cases k2 : F.1 = 2
  · rw [rk_fam_2 k2] at hcell
    exact va_runU (C := RX8) (owner := "EnumerativeCoder$Family") (As := []) hF (mtX3_turnedFamily l D cI cJ cO PL H.size a) (va_cwU 0 htc (rk_gU hlk w_3_79 w_3_89 w_3_78 w_1_5 w_3_90) rfl rfl rfl rfl (by decide +kernel) ⟨hfr, hlo⟩) (rk_preV (va_recv hV.1 (rk_oneP hcell) (ci := 7) (q0 := 0) rfl rfl) hp) hg hn hsize hstack hW hdg hf
  by_cases k3 : F.1 = 3
  · rw [rk_fam_3 k3] at hcell
    exact va_runU (C := RX7) (owner := "EnumerativeCoder$Family") (As := []) hF (mtX3_turnedFamily l D cI cJ cO PL H.size a) (va_cwU 0 htc (rk_gU hlk w_3_79 w_3_88 w_3_78 w_1_5 w_3_90) rfl rfl rfl rfl (by decide +kernel) ⟨hfr, hlo⟩) (rk_preV (va_recv hV.1 (rk_oneP hcell) (ci := 6) (q0 := 0) rfl rfl) hp) hg hn hsize hstack hW hdg hf
  by_cases k4 : F.1 = 4
  · rw [rk_fam_4 k4] at hcell
    exact va_runU (C := RX4) (owner := "EnumerativeCoder$Family") (As := []) hF (mtX3_turnedFamily l D cI cJ cO PL H.size a) (va_cwU 0 htc (rk_gU hlk w_3_79 w_3_81 w_3_78 w_1_5 w_3_90) rfl rfl rfl rfl (by decide +kernel) ⟨hfr, hlo⟩) (rk_preV (va_recv hV.1 (rk_oneP hcell) (ci := 3) (q0 := 0) rfl rfl) hp) hg hn hsize hstack hW hdg hf
  rw [rk_fam_5 hkind k1 k2 k3 k4] at hcell
  exact va_runU (C := RX1) (owner := "EnumerativeCoder$Family") (As := []) hF (mtX3_turnedFamily l D cI cJ cO PL H.size a) (va_cwU 0 htc (rk_gU hlk w_3_79 w_3_80 w_3_78 w_1_5 w_3_90) rfl rfl rfl rfl (by decide +kernel) ⟨hfr, hlo⟩) (rk_preV (va_recv hV.1 (rk_oneP hcell) (ci := 1) (q0 := 0) rfl rfl) hp) hg hn hsize hstack hW hdg hf
set_option maxHeartbeats 4000000 in
set_option maxRecDepth 100000 in
theorem mtX0_init (l : Launch) (D : va_G) (cI cJ cO : ClassId) (PL : va_W) (sz : Nat) (a_this : Nat) (r0 : Int32 × Int64) (h : fX0_init = some r0) : Met l yX0_init (rk_w yX0_init cX0_init 1 none) rmX0_init (va_Pc [.ref a_this] (rk_B D (rk_TY cI cJ cO) [(a_this, .inr (0, [.null, .null, .int 0, .long 0]))] [] PL sz)) (rk_Qve D (fun q => [(a_this, .inr (0, [.ref (q 0), .ref (q 1), .int r0.1, .long r0.2])), ((q 0), .inl (cO, 10, .inr (.inr (.inr (.inr rk_zO))))), ((q 1), .inl (cJ, 10, .inr (.inl rk_z64)))]) [(a_this, .inr (0, [.null, .null, .int 0, .long 0]))] sz) 2 20 (va_A [(a_this, .inr (0, [.null, .null, .int 0, .long 0]))] sz) := by
  refine rk_metve h (fun x q => [(a_this, .inr (0, [.ref (q 0), .ref (q 1), .int x.1, .long x.2])), ((q 0), .inl (cO, 10, .inr (.inr (.inr (.inr rk_zO))))), ((q 1), .inl (cJ, 10, .inr (.inl rk_z64)))]) (by decide) (Nat.le_of_ble_eq_true rfl) ?_
  intro p e s m args below meth c A ls Q hret hname hF hP hD hA hV hR0 hn hPL hnl hl h hS
  have hx := hF.1
  have hb := hF.2.1
  have hml := hF.2.2.1
  have hown : s.vm.findClass RX0 = some m.cls := hF.2.2.2.1
  have htc := hF.2.2.2.2
  have hname : meth.name = "<init>" := hname
  have hP : va_P D vwCl [(a_this, .inr (0, [.null, .null, .int 0, .long 0]))] s.heap := hP
  have hD : va_D A [(a_this, .inr (0, [.null, .null, .int 0, .long 0]))] := hD
  have hR0 : va_P D vwCl [] s.heap := hR0
  have hR := hR0
  have hl : lv_has ls 1 [(0, .ref a_this)] := hl
  unfold fX0_init at h
  refine lv_aload_n hx hb dX0_init_0 rfl (lv_at hl 0 rfl) ?_
  refine W.objInit hx hb hown (htc _ w_1_90) (htc _ w_1_21) (htc _ w_1_22) rfl (by rw [hml]; exact hl.1) rfl dX0_init_1 (Nat.le_of_ble_eq_true rfl) (Nat.le_of_ble_eq_true rfl) ?_
  refine W.eq (g2 := F0 m 4 ls []) rfl ?_
  refine lv_aload_n hx hb dX0_init_4 rfl (lv_at hl 0 rfl) ?_
  refine lv_bipush (v := 10) hx hb dX0_init_5 (by decide) ?_
  refine rk_newO (N := 10) hx hb hown (htc _ w_1_91) hV hP hD hS hA rfl (by decide) (by decide) (Nat.le_of_ble_eq_true rfl) (Nat.le_of_ble_eq_true rfl) (Nat.le_of_ble_eq_true rfl) dX0_init_7 (fun q_7 H hP hD hS => ?_)
  have hP : va_P D vwCl [(a_this, .inr (0, [.null, .null, .int 0, .long 0])), (q_7, .inl (cO, 10, .inr (.inr (.inr (.inr rk_zO)))))] H := hP
  have hD : va_D A [(a_this, .inr (0, [.null, .null, .int 0, .long 0])), (q_7, .inl (cO, 10, .inr (.inr (.inr (.inr rk_zO)))))] := hD
  refine va_putF (D := D) (ci := 0) (v := .ref q_7) (ty := (.array (.object "EnumerativeCoder$Family"))) (C := RX0) (T := TX0) (N := 4) hx hb htc inX0 tyX0 tyX0_ok nmX0 hown hV.1 hP hD hS 0 rfl rfl 0 (by decide) (htc _ w_1_93) (fun _ h9 => h9) rfl hname rfl (by decide +kernel) rfl rfl (Nat.le_of_ble_eq_true rfl) dX0_init_10 (fun H locs hP hD hS => ?_)
  have hP : va_P D vwCl [(a_this, .inr (0, [.ref q_7, .null, .int 0, .long 0])), (q_7, .inl (cO, 10, .inr (.inr (.inr (.inr rk_zO)))))] H := hP
  have hD : va_D A [(a_this, .inr (0, [.ref q_7, .null, .int 0, .long 0])), (q_7, .inl (cO, 10, .inr (.inr (.inr (.inr rk_zO)))))] := hD
  refine lv_aload_n hx hb dX0_init_13 rfl (lv_at hl 0 rfl) ?_
  refine lv_bipush (v := 10) hx hb dX0_init_14 (by decide) ?_
  refine rk_newJ (N := 10) hx hb (htc _ w_1_84) hV hP hD hS hA rfl (by decide) (by decide) (Nat.le_of_ble_eq_true rfl) (Nat.le_of_ble_eq_true rfl) (Nat.le_of_ble_eq_true rfl) dX0_init_16 (fun q_16 H hP hD hS => ?_)
  have hP : va_P D vwCl [(a_this, .inr (0, [.ref q_7, .null, .int 0, .long 0])), (q_7, .inl (cO, 10, .inr (.inr (.inr (.inr rk_zO))))), (q_16, .inl (cJ, 10, .inr (.inl rk_z64)))] H := hP
  have hD : va_D A [(a_this, .inr (0, [.ref q_7, .null, .int 0, .long 0])), (q_7, .inl (cO, 10, .inr (.inr (.inr (.inr rk_zO))))), (q_16, .inl (cJ, 10, .inr (.inl rk_z64)))] := hD
  refine va_putF (D := D) (ci := 0) (v := .ref q_16) (ty := (.array .long)) (C := RX0) (T := TX0) (N := 4) hx hb htc inX0 tyX0 tyX0_ok nmX0 hown hV.1 hP hD hS 0 rfl rfl 1 (by decide) (htc _ w_1_94) (fun _ h9 => h9) rfl hname rfl (by decide +kernel) rfl rfl (Nat.le_of_ble_eq_true rfl) dX0_init_18 (fun H locs hP hD hS => ?_)
  have hP : va_P D vwCl [(a_this, .inr (0, [.ref q_7, .ref q_16, .int 0, .long 0])), (q_7, .inl (cO, 10, .inr (.inr (.inr (.inr rk_zO))))), (q_16, .inl (cJ, 10, .inr (.inl rk_z64)))] H := hP
  have hD : va_D A [(a_this, .inr (0, [.ref q_7, .ref q_16, .int 0, .long 0])), (q_7, .inl (cO, 10, .inr (.inr (.inr (.inr rk_zO))))), (q_16, .inl (cJ, 10, .inr (.inl rk_z64)))] := hD
  refine lv_aload_n hx hb dX0_init_21 rfl (lv_at hl 0 rfl) ?_
  refine lv_lconst (v := 1) hx hb dX0_init_22 (by decide) ?_
  refine va_put (D := D) (ci := 0) (v := .long (1 : Int64)) (ty := .long) (C := RX0) (T := TX0) (N := 4) hx hb htc inX0 tyX0 tyX0_ok nmX0 hown hV.1 hP hD hS 0 rfl rfl 3 (by decide) (htc _ w_1_97) (fun _ h9 => h9) rfl (by decide +kernel) rfl rfl (Nat.le_of_ble_eq_true rfl) dX0_init_23 (fun H locs hP hD hS => ?_)
  have hP : va_P D vwCl [(a_this, .inr (0, [.ref q_7, .ref q_16, .int 0, .long (1 : Int64)])), (q_7, .inl (cO, 10, .inr (.inr (.inr (.inr rk_zO))))), (q_16, .inl (cJ, 10, .inr (.inl rk_z64)))] H := hP
  have hD : va_D A [(a_this, .inr (0, [.ref q_7, .ref q_16, .int 0, .long (1 : Int64)])), (q_7, .inl (cO, 10, .inr (.inr (.inr (.inr rk_zO))))), (q_16, .inl (cJ, 10, .inr (.inl rk_z64)))] := hD
  refine W.widen (k := 2) (n := 20) (Nat.le_of_ble_eq_true rfl) (Nat.le_of_ble_eq_true rfl) ?_
  exact hret (0, (1 : Int64)) (rk_qs [q_7, q_16]) _ _ _ _ h dX0_init_26 hP hD hS
set_option maxHeartbeats 4000000 in
set_option maxRecDepth 100000 in
theorem mtX9_quotient (l : Launch) (D : va_G) (cI cJ cO : ClassId) (PL : va_W) (sz : Nat) (v_p0 : Int64) (v_p2 : Int64) (r0 : Int64) (h : fX9_quotient v_p0 v_p2 = some r0) : Met l yX9_quotient (rk_w yX9_quotient cX9_quotient 4 (some .long)) rmX9_quotient (va_Pc [.long v_p0, .long v_p2] (rk_B D (rk_TY cI cJ cO) [] [] PL sz)) (rk_Ql r0 D [] [] sz) 0 0 (va_A [] sz) := by
  refine rk_metl h (fun x : Int64 => x) (fun x => []) (by decide) (Nat.le_of_ble_eq_true rfl) ?_
  intro p e s m args below meth c A ls Q hret hname hF hP hD hA hV hR0 hn hPL hnl hl h hS
  have hx := hF.1
  have hb := hF.2.1
  have hml := hF.2.2.1
  have hown : s.vm.findClass RX9 = some m.cls := hF.2.2.2.1
  have htc := hF.2.2.2.2
  have hP : va_P D vwCl [] s.heap := hP
  have hD : va_D A [] := hD
  have hR0 : va_P D vwCl [] s.heap := hR0
  have hR := hR0
  have hl : lv_has ls 4 [(0, .long v_p0), (2, .long v_p2)] := hl
  unfold fX9_quotient at h
  refine lv_lload_n hx hb dX9_quotient_0 rfl (lv_at hl 1 rfl) ?_
  refine lv_lconst (v := 0) hx hb dX9_quotient_1 (by decide) ?_
  refine rk_lcle (tgt := 12) hx hb dX9_quotient_2 dX9_quotient_3 (by decide) (fun hc1 => ?_) (fun hc1 => ?_)
  · have h := rk_if hc1 h
    refine lv_lconst (v := 0) hx hb dX9_quotient_12 (by decide) ?_
    exact hret (0 : Int64) _ _ _ _ h dX9_quotient_13 hP hD hS
  · have h := rk_nif hc1 h
    refine lv_lload_n hx hb dX9_quotient_6 rfl (lv_at hl 0 rfl) ?_
    refine lv_lload_n hx hb dX9_quotient_7 rfl (lv_at hl 1 rfl) ?_
    obtain ⟨hz2, h⟩ := rk_gd h
    refine lv_ldiv hx hb dX9_quotient_8 hz2 ?_
    refine lv_goto (tgt := 13) hx hb dX9_quotient_9 (by decide) ?_
    exact hret (v_p0 / v_p2) _ _ _ _ h dX9_quotient_13 hP hD hS
set_option maxHeartbeats 4000000 in
set_option maxRecDepth 100000 in
theorem mtX0_hasRoomFor (l : Launch) (D : va_G) (cI cJ cO : ClassId) (PL : va_W) (sz : Nat) (a_this : Nat) (a_this_families : Nat) (a_this_places : Nat) (f_this_used : Int32) (f_this_product : Int64) (v_p1 : Int64) (r0 : Int32) (h : fX0_hasRoomFor f_this_used f_this_product v_p1 = some r0) : Met l yX0_hasRoomFor (rk_w yX0_hasRoomFor cX0_hasRoomFor 3 (some .boolean)) rmX0_hasRoomFor (va_Pc [.ref a_this, .long v_p1] (rk_B D (rk_TY cI cJ cO) [] [(a_this, .inr (0, [.ref a_this_families, .ref a_this_places, .int f_this_used, .long f_this_product]))] PL sz)) (rk_Qi r0 D [] [] sz) 0 0 (va_A [] sz) := by
  refine rk_metz h (fun x : Int32 => x) (fun x => []) (by decide) (Nat.le_of_ble_eq_true rfl) ?_
  intro p e s m args below meth c A ls Q hret hname hF hP hD hA hV hR0 hn hPL hnl hl h hS
  have hx := hF.1
  have hb := hF.2.1
  have hml := hF.2.2.1
  have hown : s.vm.findClass RX0 = some m.cls := hF.2.2.2.1
  have htc := hF.2.2.2.2
  have hP : va_P D vwCl [] s.heap := hP
  have hD : va_D A [] := hD
  have hR0 : va_P D vwCl [(a_this, .inr (0, [.ref a_this_families, .ref a_this_places, .int f_this_used, .long f_this_product]))] s.heap := hR0
  have hR := hR0
  have hl : lv_has ls 3 [(0, .ref a_this), (1, .long v_p1)] := hl
  unfold fX0_hasRoomFor at h
  refine lv_aload_n hx hb dX0_hasRoomFor_0 rfl (lv_at hl 0 rfl) ?_
  refine va_get (D := D) (ci := 0) (v := .int f_this_used) (C := RX0) (T := TX0) (N := 4) hx hb htc inX0 hown hV.1 hR 0 rfl rfl 2 (by decide) (htc _ w_1_95) (fun _ h9 => h9) rfl dX0_hasRoomFor_1 ?_
  refine lv_bipush (v := 10) hx hb dX0_hasRoomFor_4 (by decide) ?_
  have B28 : fX0_hasRoomFor_B28 = some r0 → ∀ (H : Heap) (locs : List Loc), va_P D vwCl [] H → va_D A [] → va_S A s.heap H locs → ∀ (ls : Array Slot), lv_has ls 3 [] → W p l e rmX0_hasRoomFor s m args below meth c H locs 0 0 Q (F0 m 28 ls []) := by
    intro  h H locs hP hD hS ls hl
    unfold fX0_hasRoomFor_B28 at h
    have hR := rk_keep hR0 hn hS
    refine lv_iconst (v := 0) hx hb dX0_hasRoomFor_28 (by decide) ?_
    exact hret (0 : Int32) _ _ _ _ h rk_nb0 dX0_hasRoomFor_29 hP hD hS
  refine lv_icmp_ge (tgt := 28) hx hb dX0_hasRoomFor_6 (by decide) (fun hc1 => ?_) (fun hc1 => ?_)
  · have h := rk_if hc1 h
    exact B28  h _ _ hP hD hS _ (lv_sub hl [] rfl)
  · have h := rk_nif hc1 h
    refine lv_aload_n hx hb dX0_hasRoomFor_9 rfl (lv_at hl 0 rfl) ?_
    refine va_get (D := D) (ci := 0) (v := .long f_this_product) (C := RX0) (T := TX0) (N := 4) hx hb htc inX0 hown hV.1 hR 0 rfl rfl 3 (by decide) (htc _ w_1_97) (fun _ h9 => h9) rfl dX0_hasRoomFor_10 ?_
    refine lv_ldc2 (v := (4611686018427387904 : Int64)) hx hb hown (htc _ w_3_138) dX0_hasRoomFor_13 ?_
    refine lv_lload_n hx hb dX0_hasRoomFor_16 rfl (lv_at hl 1 rfl) ?_
    obtain ⟨r_17, hc_17, h⟩ := rk_bd h
    refine rk_l (wr := []) (va_runSN (As := [.long (4611686018427387904 : Int64), .long v_p1]) (rest := [.long f_this_product]) hF (mtX9_quotient l D cI cJ cO PL _ (4611686018427387904 : Int64) v_p1 r_17 hc_17) ⟨va_cnB 2 htc (rk_gw w_1_231) rfl rfl rfl (hV.2.1 _ nw_3_139) (htc _ w_1_1) (by decide +kernel) ⟨(Nat.le_of_ble_eq_true rfl), (Nat.le_of_ble_eq_true rfl)⟩, htc _ w_1_230, trivial⟩ (rk_preS hP hD hS hR hn hPL hnl hV [] [] rfl (by decide) rfl (by decide)) rfl rfl hl.1 rfl (lv_room (Nat.le_of_ble_eq_true rfl)) dX0_hasRoomFor_17 ⟨(Nat.le_of_ble_eq_true rfl), (Nat.le_of_ble_eq_true rfl)⟩) hP hD hS hA hR0 hn [] [] rfl rfl (by decide) (by decide) (fun H locs hP hD hS hR => ?_)
    have hP : va_P D vwCl [] H := hP
    have hD : va_D A [] := hD
    refine rk_lcgt (tgt := 28) hx hb dX0_hasRoomFor_20 dX0_hasRoomFor_21 (by decide) (fun hc2 => ?_) (fun hc2 => ?_)
    · have h := rk_if hc2 h
      exact B28  h _ _ hP hD hS _ (lv_sub hl [] rfl)
    · have h := rk_nif hc2 h
      refine lv_iconst (v := 1) hx hb dX0_hasRoomFor_24 (by decide) ?_
      refine lv_goto (tgt := 29) hx hb dX0_hasRoomFor_25 (by decide) ?_
      exact hret (1 : Int32) _ _ _ _ h rk_nb1 dX0_hasRoomFor_29 hP hD hS
set_option maxHeartbeats 4000000 in
set_option maxRecDepth 100000 in
theorem mtX9_set_ (l : Launch) (D : va_G) (cI cJ cO : ClassId) (PL : va_W) (sz : Nat) (a_p0 : Nat) (n_p0 : Nat) (c_p0 : Nat → Int64) (v_p1 : Int32) (v_p2 : Int64) (r0 : (Nat → Int64)) (h : fX9_set_ n_p0 c_p0 v_p1 v_p2 = some r0) : Met l yX9_set_ (rk_w yX9_set_ cX9_set_ 4 none) rmX9_set_ (va_Pc [.ref a_p0, .int v_p1, .long v_p2] (rk_B D (rk_TY cI cJ cO) [(a_p0, .inl (cJ, n_p0, .inr (.inl c_p0)))] [] PL sz)) (rk_Qv D [(a_p0, .inl (cJ, n_p0, .inr (.inl r0)))] [(a_p0, .inl (cJ, n_p0, .inr (.inl c_p0)))] sz) 0 0 (va_A [(a_p0, .inl (cJ, n_p0, .inr (.inl c_p0)))] sz) := by
  refine rk_metv h (fun x => [(a_p0, .inl (cJ, n_p0, .inr (.inl x)))]) (by decide) (Nat.le_of_ble_eq_true rfl) ?_
  intro p e s m args below meth c A ls Q hret hname hF hP hD hA hV hR0 hn hPL hnl hl h hS
  have hx := hF.1
  have hb := hF.2.1
  have hml := hF.2.2.1
  have hown : s.vm.findClass RX9 = some m.cls := hF.2.2.2.1
  have htc := hF.2.2.2.2
  have hP : va_P D vwCl [(a_p0, .inl (cJ, n_p0, .inr (.inl c_p0)))] s.heap := hP
  have hD : va_D A [(a_p0, .inl (cJ, n_p0, .inr (.inl c_p0)))] := hD
  have hR0 : va_P D vwCl [] s.heap := hR0
  have hR := hR0
  have hl : lv_has ls 4 [(0, .ref a_p0), (1, .int v_p1), (2, .long v_p2)] := hl
  unfold fX9_set_ at h
  refine lv_iload_n hx hb dX9_set__0 rfl (lv_at hl 1 rfl) ?_
  refine lv_if_lt (tgt := 14) hx hb dX9_set__1 (by decide) (fun hc1 => ?_) (fun hc1 => ?_)
  · have h := rk_if hc1 h
    exact hret c_p0 _ _ _ _ h dX9_set__14 hP hD hS
  · have h := rk_nif hc1 h
    refine lv_iload_n hx hb dX9_set__4 rfl (lv_at hl 1 rfl) ?_
    refine lv_aload_n hx hb dX9_set__5 rfl (lv_at hl 0 rfl) ?_
    refine va_alen hx hb hV.1 hP 0 1 rfl rfl rfl dX9_set__6 ?_
    refine lv_icmp_ge (tgt := 14) hx hb dX9_set__7 (by decide) (fun hc2 => ?_) (fun hc2 => ?_)
    · have h := rk_if hc2 h
      exact hret c_p0 _ _ _ _ h dX9_set__14 hP hD hS
    · have h := rk_nif hc2 h
      refine lv_aload_n hx hb dX9_set__10 rfl (lv_at hl 0 rfl) ?_
      refine lv_iload_n hx hb dX9_set__11 rfl (lv_at hl 1 rfl) ?_
      refine lv_lload_n hx hb dX9_set__12 rfl (lv_at hl 2 rfl) ?_
      obtain ⟨hg3, h⟩ := rk_gd h
      refine va_last hx hb hV.1 hP hD hS 0 1 rfl rfl hg3 dX9_set__13 (fun H locs hP hD hS => ?_)
      have hP : va_P D vwCl [(a_p0, .inl (cJ, n_p0, .inr (.inl (vp_updL c_p0 v_p1.toNatClampNeg v_p2))))] H := hP
      have hD : va_D A [(a_p0, .inl (cJ, n_p0, .inr (.inl (vp_updL c_p0 v_p1.toNatClampNeg v_p2))))] := hD
      exact hret (vp_updL c_p0 v_p1.toNatClampNeg v_p2) _ _ _ _ h dX9_set__14 hP hD hS
set_option maxHeartbeats 4000000 in
set_option maxRecDepth 100000 in
theorem mtX0_keep (l : Launch) (D : va_G) (cI cJ cO : ClassId) (PL : va_W) (sz : Nat) (a_this : Nat) (a_this_families : Nat) (a_this_places : Nat) (f_this_used : Int32) (f_this_product : Int64) (a_p2 : Nat) (F_p2 : Fm) (c_this_families : Nat → Option Nat) (c_this_places : Nat → Int64) (v_p1 : Int32) (v_p3 : Int64) (r0 : (Nat → Option Nat) × (Nat → Int64)) (h : fX0_keep a_p2 c_this_families c_this_places v_p1 v_p3 = some r0) : Met l yX0_keep (rk_w yX0_keep cX0_keep 5 none) rmX0_keep (va_Pc [.ref a_this, .int v_p1, .ref a_p2, .long v_p3] (rk_B D (rk_TY cI cJ cO) [(a_this_families, .inl (cO, 10, .inr (.inr (.inr (.inr c_this_families))))), (a_this_places, .inl (cJ, 10, .inr (.inl c_this_places)))] [(a_this, .inr (0, [.ref a_this_families, .ref a_this_places, .int f_this_used, .long f_this_product])), (a_p2, rk_fam F_p2)] PL sz)) (rk_Qv D [(a_this_families, .inl (cO, 10, .inr (.inr (.inr (.inr r0.1))))), (a_this_places, .inl (cJ, 10, .inr (.inl r0.2)))] [(a_this_families, .inl (cO, 10, .inr (.inr (.inr (.inr c_this_families))))), (a_this_places, .inl (cJ, 10, .inr (.inl c_this_places)))] sz) 0 0 (va_A [(a_this_families, .inl (cO, 10, .inr (.inr (.inr (.inr c_this_families))))), (a_this_places, .inl (cJ, 10, .inr (.inl c_this_places)))] sz) := by
  refine rk_metv h (fun x => [(a_this_families, .inl (cO, 10, .inr (.inr (.inr (.inr x.1))))), (a_this_places, .inl (cJ, 10, .inr (.inl x.2)))]) (by decide) (Nat.le_of_ble_eq_true rfl) ?_
  intro p e s m args below meth c A ls Q hret hname hF hP hD hA hV hR0 hn hPL hnl hl h hS
  have hx := hF.1
  have hb := hF.2.1
  have hml := hF.2.2.1
  have hown : s.vm.findClass RX0 = some m.cls := hF.2.2.2.1
  have htc := hF.2.2.2.2
  have hP : va_P D vwCl [(a_this_families, .inl (cO, 10, .inr (.inr (.inr (.inr c_this_families))))), (a_this_places, .inl (cJ, 10, .inr (.inl c_this_places)))] s.heap := hP
  have hD : va_D A [(a_this_families, .inl (cO, 10, .inr (.inr (.inr (.inr c_this_families))))), (a_this_places, .inl (cJ, 10, .inr (.inl c_this_places)))] := hD
  have hR0 : va_P D vwCl [(a_this, .inr (0, [.ref a_this_families, .ref a_this_places, .int f_this_used, .long f_this_product])), (a_p2, rk_fam F_p2)] s.heap := hR0
  have hR := hR0
  have hl : lv_has ls 5 [(0, .ref a_this), (1, .int v_p1), (2, .ref a_p2), (3, .long v_p3)] := hl
  unfold fX0_keep at h
  refine lv_iload_n hx hb dX0_keep_0 rfl (lv_at hl 1 rfl) ?_
  refine lv_if_lt (tgt := 29) hx hb dX0_keep_1 (by decide) (fun hc1 => ?_) (fun hc1 => ?_)
  · have h := rk_if hc1 h
    exact hret (c_this_families, c_this_places) _ _ _ _ h dX0_keep_29 hP hD hS
  · have h := rk_nif hc1 h
    refine lv_iload_n hx hb dX0_keep_4 rfl (lv_at hl 1 rfl) ?_
    refine lv_aload_n hx hb dX0_keep_5 rfl (lv_at hl 0 rfl) ?_
    refine va_get (D := D) (ci := 0) (v := .ref a_this_families) (C := RX0) (T := TX0) (N := 4) hx hb htc inX0 hown hV.1 hR 0 rfl rfl 0 (by decide) (htc _ w_1_93) (fun _ h9 => h9) rfl dX0_keep_6 ?_
    refine va_alen hx hb hV.1 hP 0 2 rfl rfl rfl dX0_keep_9 ?_
    refine lv_icmp_ge (tgt := 29) hx hb dX0_keep_10 (by decide) (fun hc2 => ?_) (fun hc2 => ?_)
    · have h := rk_if hc2 h
      exact hret (c_this_families, c_this_places) _ _ _ _ h dX0_keep_29 hP hD hS
    · have h := rk_nif hc2 h
      refine lv_aload_n hx hb dX0_keep_13 rfl (lv_at hl 0 rfl) ?_
      refine va_get (D := D) (ci := 0) (v := .ref a_this_families) (C := RX0) (T := TX0) (N := 4) hx hb htc inX0 hown hV.1 hR 0 rfl rfl 0 (by decide) (htc _ w_1_93) (fun _ h9 => h9) rfl dX0_keep_14 ?_
      refine lv_iload_n hx hb dX0_keep_17 rfl (lv_at hl 1 rfl) ?_
      refine lv_aload_n hx hb dX0_keep_18 rfl (lv_at hl 2 rfl) ?_
      obtain ⟨hg3, h⟩ := rk_gd h
      refine va_astqM hx hb hV.1 hP hD hS 0 2 rfl rfl (rk_any hV hR 1 rfl) hg3 dX0_keep_19 (fun H locs hP hD hS => ?_)
      have hP : va_P D vwCl [(a_this_families, .inl (cO, 10, .inr (.inr (.inr (.inr (va_up c_this_families v_p1.toNatClampNeg (some a_p2))))))), (a_this_places, .inl (cJ, 10, .inr (.inl c_this_places)))] H := hP
      have hD : va_D A [(a_this_families, .inl (cO, 10, .inr (.inr (.inr (.inr (va_up c_this_families v_p1.toNatClampNeg (some a_p2))))))), (a_this_places, .inl (cJ, 10, .inr (.inl c_this_places)))] := hD
      have hR := rk_keep hR0 hn hS
      refine lv_aload_n hx hb dX0_keep_20 rfl (lv_at hl 0 rfl) ?_
      refine va_get (D := D) (ci := 0) (v := .ref a_this_places) (C := RX0) (T := TX0) (N := 4) hx hb htc inX0 hown hV.1 hR 0 rfl rfl 1 (by decide) (htc _ w_1_94) (fun _ h9 => h9) rfl dX0_keep_21 ?_
      refine lv_iload_n hx hb dX0_keep_24 rfl (lv_at hl 1 rfl) ?_
      refine lv_lload_n hx hb dX0_keep_25 rfl (lv_at hl 3 rfl) ?_
      obtain ⟨r_26, hc_26, h⟩ := rk_bd h
      refine rk_v (wr := [(a_this_families, .inl (cO, 10, .inr (.inr (.inr (.inr (va_up c_this_families v_p1.toNatClampNeg (some a_p2)))))))]) (va_runSN (As := [.ref a_this_places, .int v_p1, .long v_p3]) (rest := []) hF (mtX9_set_ l D cI cJ cO PL _ a_this_places 10 c_this_places v_p1 v_p3 r_26 hc_26) ⟨va_cnB 3 htc (rk_gw w_1_37) rfl rfl rfl (hV.2.1 _ nw_3_148) (htc _ w_1_1) (by decide +kernel) ⟨(Nat.le_of_ble_eq_true rfl), (Nat.le_of_ble_eq_true rfl)⟩, htc _ w_1_36, trivial⟩ (rk_preS hP hD hS hR hn hPL hnl hV [1] [] rfl (by decide) rfl (by decide)) rfl rfl hl.1 rfl (lv_room (Nat.le_of_ble_eq_true rfl)) dX0_keep_26 ⟨(Nat.le_of_ble_eq_true rfl), (Nat.le_of_ble_eq_true rfl)⟩) hP hD hS hA hR0 hn [1] [0] rfl rfl (by decide) (by decide) (fun H locs hP hD hS hR => ?_)
      have hP : va_P D vwCl [(a_this_families, .inl (cO, 10, .inr (.inr (.inr (.inr (va_up c_this_families v_p1.toNatClampNeg (some a_p2))))))), (a_this_places, .inl (cJ, 10, .inr (.inl r_26)))] H := hP
      have hD : va_D A [(a_this_families, .inl (cO, 10, .inr (.inr (.inr (.inr (va_up c_this_families v_p1.toNatClampNeg (some a_p2))))))), (a_this_places, .inl (cJ, 10, .inr (.inl r_26)))] := hD
      exact hret ((va_up c_this_families v_p1.toNatClampNeg (some a_p2)), r_26) _ _ _ _ h dX0_keep_29 hP hD hS
set_option maxHeartbeats 4000000 in
set_option maxRecDepth 100000 in
theorem mtX0_append (l : Launch) (D : va_G) (cI cJ cO : ClassId) (PL : va_W) (sz : Nat) (a_this : Nat) (a_this_families : Nat) (a_this_places : Nat) (f_this_used : Int32) (f_this_product : Int64) (a_p1 : Nat) (F_p1 : Fm) (c_this_families : Nat → Option Nat) (c_this_places : Nat → Int64) (v_p2 : Int64) (r0 : Int32 × Int32 × Int64 × (Nat → Option Nat) × (Nat → Int64)) (h : fX0_append f_this_used f_this_product a_p1 F_p1 c_this_families c_this_places v_p2 = some r0) : Met l yX0_append (rk_w yX0_append cX0_append 5 (some .int)) rmX0_append (va_Pc [.ref a_this, .ref a_p1, .long v_p2] (rk_B D (rk_TY cI cJ cO) [(a_this, .inr (0, [.ref a_this_families, .ref a_this_places, .int f_this_used, .long f_this_product])), (a_this_families, .inl (cO, 10, .inr (.inr (.inr (.inr c_this_families))))), (a_this_places, .inl (cJ, 10, .inr (.inl c_this_places)))] [(a_p1, rk_fam F_p1)] PL sz)) (rk_Qi r0.1 D [(a_this, .inr (0, [.ref a_this_families, .ref a_this_places, .int r0.2.1, .long r0.2.2.1])), (a_this_families, .inl (cO, 10, .inr (.inr (.inr (.inr r0.2.2.2.1))))), (a_this_places, .inl (cJ, 10, .inr (.inl r0.2.2.2.2)))] [(a_this, .inr (0, [.ref a_this_families, .ref a_this_places, .int f_this_used, .long f_this_product])), (a_this_families, .inl (cO, 10, .inr (.inr (.inr (.inr c_this_families))))), (a_this_places, .inl (cJ, 10, .inr (.inl c_this_places)))] sz) 0 0 (va_A [(a_this, .inr (0, [.ref a_this_families, .ref a_this_places, .int f_this_used, .long f_this_product])), (a_this_families, .inl (cO, 10, .inr (.inr (.inr (.inr c_this_families))))), (a_this_places, .inl (cJ, 10, .inr (.inl c_this_places)))] sz) := by
  refine rk_meti h (fun x : Int32 × Int32 × Int64 × (Nat → Option Nat) × (Nat → Int64) => x.1) (fun x => [(a_this, .inr (0, [.ref a_this_families, .ref a_this_places, .int x.2.1, .long x.2.2.1])), (a_this_families, .inl (cO, 10, .inr (.inr (.inr (.inr x.2.2.2.1))))), (a_this_places, .inl (cJ, 10, .inr (.inl x.2.2.2.2)))]) (by decide) (Nat.le_of_ble_eq_true rfl) ?_
  intro p e s m args below meth c A ls Q hret hname hF hP hD hA hV hR0 hn hPL hnl hl h hS
  have hx := hF.1
  have hb := hF.2.1
  have hml := hF.2.2.1
  have hown : s.vm.findClass RX0 = some m.cls := hF.2.2.2.1
  have htc := hF.2.2.2.2
  have hP : va_P D vwCl [(a_this, .inr (0, [.ref a_this_families, .ref a_this_places, .int f_this_used, .long f_this_product])), (a_this_families, .inl (cO, 10, .inr (.inr (.inr (.inr c_this_families))))), (a_this_places, .inl (cJ, 10, .inr (.inl c_this_places)))] s.heap := hP
  have hD : va_D A [(a_this, .inr (0, [.ref a_this_families, .ref a_this_places, .int f_this_used, .long f_this_product])), (a_this_families, .inl (cO, 10, .inr (.inr (.inr (.inr c_this_families))))), (a_this_places, .inl (cJ, 10, .inr (.inl c_this_places)))] := hD
  have hR0 : va_P D vwCl [(a_p1, rk_fam F_p1)] s.heap := hR0
  have hR := hR0
  have hl : lv_has ls 5 [(0, .ref a_this), (1, .ref a_p1), (2, .long v_p2)] := hl
  unfold fX0_append at h
  refine lv_aload_n hx hb dX0_append_0 rfl (lv_at hl 0 rfl) ?_
  refine va_get (D := D) (ci := 0) (v := .int f_this_used) (C := RX0) (T := TX0) (N := 4) hx hb htc inX0 hown hV.1 hP 0 rfl rfl 2 (by decide) (htc _ w_1_95) (fun _ h9 => h9) rfl dX0_append_1 ?_
  refine lv_istore (lv' := [(4, .int f_this_used), (0, .ref a_this), (1, .ref a_p1), (2, .long v_p2)]) hx hb dX0_append_4 hl (by decide) rfl (fun ls hl => ?_)
  refine lv_aload_n hx hb dX0_append_6 rfl (lv_at hl 1 rfl) ?_
  refine lv_iload hx hb dX0_append_7 (lv_at hl 0 rfl) ?_
  refine lv_aload_n hx hb dX0_append_9 rfl (lv_at hl 2 rfl) ?_
  refine lv_lload_n hx hb dX0_append_10 rfl (lv_at hl 3 rfl) ?_
  obtain ⟨r_11, hc_11, h⟩ := rk_bd h
  refine rk_v (wr := [(a_this, .inr (0, [.ref a_this_families, .ref a_this_places, .int f_this_used, .long f_this_product]))]) (va_runV (C := RX0) (As := [.int f_this_used, .ref a_p1, .long v_p2]) (rest := []) hF (mtX0_keep l D cI cJ cO PL _ a_this a_this_families a_this_places f_this_used f_this_product a_p1 F_p1 c_this_families c_this_places f_this_used v_p2 r_11 hc_11) (cwV 3 htc (rk_gV w_3_144 w_3_146 ws_23 w_1_4 w_3_147) rfl rfl rfl (by decide +kernel) ⟨(Nat.le_of_ble_eq_true rfl), (Nat.le_of_ble_eq_true rfl)⟩) (rk_preV (va_recv hV.1 hP (ci := 0) (q0 := 0) rfl rfl) (rk_preS hP hD hS hR hn hPL hnl hV [1, 2] [(true, 0), (false, 0)] rfl (by decide) rfl (by decide))) rfl rfl hl.1 rfl (lv_room (Nat.le_of_ble_eq_true rfl)) dX0_append_11 ⟨(Nat.le_of_ble_eq_true rfl), (Nat.le_of_ble_eq_true rfl)⟩) hP hD hS hA hR0 hn [1, 2] [0] rfl rfl (by decide) (by decide) (fun H locs hP hD hS hR => ?_)
  have hP : va_P D vwCl [(a_this, .inr (0, [.ref a_this_families, .ref a_this_places, .int f_this_used, .long f_this_product])), (a_this_families, .inl (cO, 10, .inr (.inr (.inr (.inr r_11.1))))), (a_this_places, .inl (cJ, 10, .inr (.inl r_11.2)))] H := hP
  have hD : va_D A [(a_this, .inr (0, [.ref a_this_families, .ref a_this_places, .int f_this_used, .long f_this_product])), (a_this_families, .inl (cO, 10, .inr (.inr (.inr (.inr r_11.1))))), (a_this_places, .inl (cJ, 10, .inr (.inl r_11.2)))] := hD
  refine lv_aload_n hx hb dX0_append_14 rfl (lv_at hl 1 rfl) ?_
  refine lv_dup hx hb dX0_append_15 rfl ?_
  refine va_get (D := D) (ci := 0) (v := .long f_this_product) (C := RX0) (T := TX0) (N := 4) hx hb htc inX0 hown hV.1 hP 0 rfl rfl 3 (by decide) (htc _ w_1_97) (fun _ h9 => h9) rfl dX0_append_16 ?_
  refine lv_aload_n hx hb dX0_append_19 rfl (lv_at hl 2 rfl) ?_
  refine rk_fget_size hx hb htc hown hV.1 hR 0 rfl (htc _ w_1_137) dX0_append_20 ?_
  refine lv_lmul hx hb dX0_append_23 ?_
  refine va_put (D := D) (ci := 0) (v := .long (f_this_product * F_p1.2.2.2.1)) (ty := .long) (C := RX0) (T := TX0) (N := 4) hx hb htc inX0 tyX0 tyX0_ok nmX0 hown hV.1 hP hD hS 0 rfl rfl 3 (by decide) (htc _ w_1_97) (fun _ h9 => h9) rfl (by decide +kernel) rfl rfl (Nat.le_of_ble_eq_true rfl) dX0_append_24 (fun H locs hP hD hS => ?_)
  have hP : va_P D vwCl [(a_this, .inr (0, [.ref a_this_families, .ref a_this_places, .int f_this_used, .long (f_this_product * F_p1.2.2.2.1)])), (a_this_families, .inl (cO, 10, .inr (.inr (.inr (.inr r_11.1))))), (a_this_places, .inl (cJ, 10, .inr (.inl r_11.2)))] H := hP
  have hD : va_D A [(a_this, .inr (0, [.ref a_this_families, .ref a_this_places, .int f_this_used, .long (f_this_product * F_p1.2.2.2.1)])), (a_this_families, .inl (cO, 10, .inr (.inr (.inr (.inr r_11.1))))), (a_this_places, .inl (cJ, 10, .inr (.inl r_11.2)))] := hD
  have hR := rk_keep hR0 hn hS
  refine lv_aload_n hx hb dX0_append_27 rfl (lv_at hl 1 rfl) ?_
  refine lv_dup hx hb dX0_append_28 rfl ?_
  refine va_get (D := D) (ci := 0) (v := .int f_this_used) (C := RX0) (T := TX0) (N := 4) hx hb htc inX0 hown hV.1 hP 0 rfl rfl 2 (by decide) (htc _ w_1_95) (fun _ h9 => h9) rfl dX0_append_29 ?_
  refine lv_iconst (v := 1) hx hb dX0_append_32 (by decide) ?_
  refine lv_iadd hx hb dX0_append_33 ?_
  refine va_put (D := D) (ci := 0) (v := .int (f_this_used + (1 : Int32))) (ty := .int) (C := RX0) (T := TX0) (N := 4) hx hb htc inX0 tyX0 tyX0_ok nmX0 hown hV.1 hP hD hS 0 rfl rfl 2 (by decide) (htc _ w_1_95) (fun _ h9 => h9) rfl (by decide +kernel) rfl rfl (Nat.le_of_ble_eq_true rfl) dX0_append_34 (fun H locs hP hD hS => ?_)
  have hP : va_P D vwCl [(a_this, .inr (0, [.ref a_this_families, .ref a_this_places, .int (f_this_used + (1 : Int32)), .long (f_this_product * F_p1.2.2.2.1)])), (a_this_families, .inl (cO, 10, .inr (.inr (.inr (.inr r_11.1))))), (a_this_places, .inl (cJ, 10, .inr (.inl r_11.2)))] H := hP
  have hD : va_D A [(a_this, .inr (0, [.ref a_this_families, .ref a_this_places, .int (f_this_used + (1 : Int32)), .long (f_this_product * F_p1.2.2.2.1)])), (a_this_families, .inl (cO, 10, .inr (.inr (.inr (.inr r_11.1))))), (a_this_places, .inl (cJ, 10, .inr (.inl r_11.2)))] := hD
  have hR := rk_keep hR0 hn hS
  refine lv_iload hx hb dX0_append_37 (lv_at hl 0 rfl) ?_
  exact hret (f_this_used, (f_this_used + (1 : Int32)), (f_this_product * F_p1.2.2.2.1), r_11.1, r_11.2) _ _ _ _ h dX0_append_39 hP hD hS
set_option maxHeartbeats 4000000 in
set_option maxRecDepth 100000 in
theorem mtX0_familyAt (l : Launch) (D : va_G) (cI cJ cO : ClassId) (PL : va_W) (sz : Nat) (a_this : Nat) (a_this_families : Nat) (a_this_places : Nat) (f_this_used : Int32) (f_this_product : Int64) (c_this_families : Nat → Option Nat) (v_p1 : Int32) (r0 : Option Nat) (h : fX0_familyAt f_this_used c_this_families v_p1 = some r0) : Met l yX0_familyAt (rk_w yX0_familyAt cX0_familyAt 2 (some (.object "EnumerativeCoder$Family"))) rmX0_familyAt (va_Pc [.ref a_this, .int v_p1] (rk_B D (rk_TY cI cJ cO) [] [(a_this, .inr (0, [.ref a_this_families, .ref a_this_places, .int f_this_used, .long f_this_product])), (a_this_families, .inl (cO, 10, .inr (.inr (.inr (.inr c_this_families)))))] PL sz)) (rk_Qq r0 D [] [] sz) 0 0 (va_A [] sz) := by
  refine rk_metq h (fun x : Option Nat => x) (fun x => []) (by decide) (Nat.le_of_ble_eq_true rfl) ?_
  intro p e s m args below meth c A ls Q hret hname hF hP hD hA hV hR0 hn hPL hnl hl h hS
  have hx := hF.1
  have hb := hF.2.1
  have hml := hF.2.2.1
  have hown : s.vm.findClass RX0 = some m.cls := hF.2.2.2.1
  have htc := hF.2.2.2.2
  have hP : va_P D vwCl [] s.heap := hP
  have hD : va_D A [] := hD
  have hR0 : va_P D vwCl [(a_this, .inr (0, [.ref a_this_families, .ref a_this_places, .int f_this_used, .long f_this_product])), (a_this_families, .inl (cO, 10, .inr (.inr (.inr (.inr c_this_families)))))] s.heap := hR0
  have hR := hR0
  have hl : lv_has ls 2 [(0, .ref a_this), (1, .int v_p1)] := hl
  unfold fX0_familyAt at h
  refine lv_iload_n hx hb dX0_familyAt_0 rfl (lv_at hl 1 rfl) ?_
  have B31 : ∀ (b31_t0 : Option Nat), fX0_familyAt_B31 b31_t0 = some r0 → ∀ (H : Heap) (locs : List Loc), va_P D vwCl [] H → va_D A [] → va_S A s.heap H locs → ∀ (ls : Array Slot), lv_has ls 2 [] → W p l e rmX0_familyAt s m args below meth c H locs 0 0 Q (F0 m 31 ls [va_rf b31_t0]) := by
    intro b31_t0 h H locs hP hD hS ls hl
    unfold fX0_familyAt_B31 at h
    have hR := rk_keep hR0 hn hS
    exact hret b31_t0 _ _ _ _ h dX0_familyAt_31 hP hD hS
  have B30 : fX0_familyAt_B30 = some r0 → ∀ (H : Heap) (locs : List Loc), va_P D vwCl [] H → va_D A [] → va_S A s.heap H locs → ∀ (ls : Array Slot), lv_has ls 2 [] → W p l e rmX0_familyAt s m args below meth c H locs 0 0 Q (F0 m 30 ls []) := by
    intro  h H locs hP hD hS ls hl
    unfold fX0_familyAt_B30 at h
    have hR := rk_keep hR0 hn hS
    refine lv_null hx hb dX0_familyAt_30 ?_
    exact B31 (none : Option Nat) h _ _ hP hD hS _ hl
  refine lv_if_lt (tgt := 30) hx hb dX0_familyAt_1 (by decide) (fun hc1 => ?_) (fun hc1 => ?_)
  · have h := rk_if hc1 h
    exact B30  h _ _ hP hD hS _ (lv_sub hl [] rfl)
  · have h := rk_nif hc1 h
    refine lv_iload_n hx hb dX0_familyAt_4 rfl (lv_at hl 1 rfl) ?_
    refine lv_aload_n hx hb dX0_familyAt_5 rfl (lv_at hl 0 rfl) ?_
    refine va_get (D := D) (ci := 0) (v := .int f_this_used) (C := RX0) (T := TX0) (N := 4) hx hb htc inX0 hown hV.1 hR 0 rfl rfl 2 (by decide) (htc _ w_1_95) (fun _ h9 => h9) rfl dX0_familyAt_6 ?_
    refine lv_icmp_ge (tgt := 30) hx hb dX0_familyAt_9 (by decide) (fun hc2 => ?_) (fun hc2 => ?_)
    · have h := rk_if hc2 h
      exact B30  h _ _ hP hD hS _ (lv_sub hl [] rfl)
    · have h := rk_nif hc2 h
      refine lv_iload_n hx hb dX0_familyAt_12 rfl (lv_at hl 1 rfl) ?_
      refine lv_aload_n hx hb dX0_familyAt_13 rfl (lv_at hl 0 rfl) ?_
      refine va_get (D := D) (ci := 0) (v := .ref a_this_families) (C := RX0) (T := TX0) (N := 4) hx hb htc inX0 hown hV.1 hR 0 rfl rfl 0 (by decide) (htc _ w_1_93) (fun _ h9 => h9) rfl dX0_familyAt_14 ?_
      refine va_alen hx hb hV.1 hR 1 2 rfl rfl rfl dX0_familyAt_17 ?_
      refine lv_icmp_ge (tgt := 30) hx hb dX0_familyAt_18 (by decide) (fun hc3 => ?_) (fun hc3 => ?_)
      · have h := rk_if hc3 h
        exact B30  h _ _ hP hD hS _ (lv_sub hl [] rfl)
      · have h := rk_nif hc3 h
        refine lv_aload_n hx hb dX0_familyAt_21 rfl (lv_at hl 0 rfl) ?_
        refine va_get (D := D) (ci := 0) (v := .ref a_this_families) (C := RX0) (T := TX0) (N := 4) hx hb htc inX0 hown hV.1 hR 0 rfl rfl 0 (by decide) (htc _ w_1_93) (fun _ h9 => h9) rfl dX0_familyAt_22 ?_
        refine lv_iload_n hx hb dX0_familyAt_25 rfl (lv_at hl 1 rfl) ?_
        obtain ⟨hg4, h⟩ := rk_gd h
        refine va_aldq hx hb hV.1 hR 1 2 rfl rfl hg4 dX0_familyAt_26 ?_
        refine lv_goto (tgt := 31) hx hb dX0_familyAt_27 (by decide) ?_
        exact B31 (c_this_families v_p1.toNatClampNeg) h _ _ hP hD hS _ (lv_sub hl [] rfl)
set_option maxHeartbeats 4000000 in
set_option maxRecDepth 100000 in
theorem mtX9_at_ (l : Launch) (D : va_G) (cI cJ cO : ClassId) (PL : va_W) (sz : Nat) (a_p0 : Nat) (n_p0 : Nat) (c_p0 : Nat → Int64) (v_p1 : Int32) (r0 : Int64) (h : fX9_at_ n_p0 c_p0 v_p1 = some r0) : Met l yX9_at_ (rk_w yX9_at_ cX9_at_ 2 (some .long)) rmX9_at_ (va_Pc [.ref a_p0, .int v_p1] (rk_B D (rk_TY cI cJ cO) [] [(a_p0, .inl (cJ, n_p0, .inr (.inl c_p0)))] PL sz)) (rk_Ql r0 D [] [] sz) 0 0 (va_A [] sz) := by
  refine rk_metl h (fun x : Int64 => x) (fun x => []) (by decide) (Nat.le_of_ble_eq_true rfl) ?_
  intro p e s m args below meth c A ls Q hret hname hF hP hD hA hV hR0 hn hPL hnl hl h hS
  have hx := hF.1
  have hb := hF.2.1
  have hml := hF.2.2.1
  have hown : s.vm.findClass RX9 = some m.cls := hF.2.2.2.1
  have htc := hF.2.2.2.2
  have hP : va_P D vwCl [] s.heap := hP
  have hD : va_D A [] := hD
  have hR0 : va_P D vwCl [(a_p0, .inl (cJ, n_p0, .inr (.inl c_p0)))] s.heap := hR0
  have hR := hR0
  have hl : lv_has ls 2 [(0, .ref a_p0), (1, .int v_p1)] := hl
  unfold fX9_at_ at h
  refine lv_iload_n hx hb dX9_at__0 rfl (lv_at hl 1 rfl) ?_
  have B16 : fX9_at__B16 = some r0 → ∀ (H : Heap) (locs : List Loc), va_P D vwCl [] H → va_D A [] → va_S A s.heap H locs → ∀ (ls : Array Slot), lv_has ls 2 [] → W p l e rmX9_at_ s m args below meth c H locs 0 0 Q (F0 m 16 ls []) := by
    intro  h H locs hP hD hS ls hl
    unfold fX9_at__B16 at h
    have hR := rk_keep hR0 hn hS
    refine lv_lconst (v := 0) hx hb dX9_at__16 (by decide) ?_
    exact hret (0 : Int64) _ _ _ _ h dX9_at__17 hP hD hS
  refine lv_if_lt (tgt := 16) hx hb dX9_at__1 (by decide) (fun hc1 => ?_) (fun hc1 => ?_)
  · have h := rk_if hc1 h
    exact B16  h _ _ hP hD hS _ (lv_sub hl [] rfl)
  · have h := rk_nif hc1 h
    refine lv_iload_n hx hb dX9_at__4 rfl (lv_at hl 1 rfl) ?_
    refine lv_aload_n hx hb dX9_at__5 rfl (lv_at hl 0 rfl) ?_
    refine va_alen hx hb hV.1 hR 0 1 rfl rfl rfl dX9_at__6 ?_
    refine lv_icmp_ge (tgt := 16) hx hb dX9_at__7 (by decide) (fun hc2 => ?_) (fun hc2 => ?_)
    · have h := rk_if hc2 h
      exact B16  h _ _ hP hD hS _ (lv_sub hl [] rfl)
    · have h := rk_nif hc2 h
      refine lv_aload_n hx hb dX9_at__10 rfl (lv_at hl 0 rfl) ?_
      refine lv_iload_n hx hb dX9_at__11 rfl (lv_at hl 1 rfl) ?_
      obtain ⟨hg3, h⟩ := rk_gd h
      refine va_lald hx hb hV.1 hR 0 1 rfl rfl hg3 dX9_at__12 ?_
      refine lv_goto (tgt := 17) hx hb dX9_at__13 (by decide) ?_
      exact hret (c_p0 v_p1.toNatClampNeg) _ _ _ _ h dX9_at__17 hP hD hS
set_option maxHeartbeats 4000000 in
set_option maxRecDepth 100000 in
theorem mtX0_placeAt (l : Launch) (D : va_G) (cI cJ cO : ClassId) (PL : va_W) (sz : Nat) (a_this : Nat) (a_this_families : Nat) (a_this_places : Nat) (f_this_used : Int32) (f_this_product : Int64) (c_this_places : Nat → Int64) (v_p1 : Int32) (r0 : Int64) (h : fX0_placeAt c_this_places v_p1 = some r0) : Met l yX0_placeAt (rk_w yX0_placeAt cX0_placeAt 2 (some .long)) rmX0_placeAt (va_Pc [.ref a_this, .int v_p1] (rk_B D (rk_TY cI cJ cO) [] [(a_this, .inr (0, [.ref a_this_families, .ref a_this_places, .int f_this_used, .long f_this_product])), (a_this_places, .inl (cJ, 10, .inr (.inl c_this_places)))] PL sz)) (rk_Ql r0 D [] [] sz) 0 0 (va_A [] sz) := by
  refine rk_metl h (fun x : Int64 => x) (fun x => []) (by decide) (Nat.le_of_ble_eq_true rfl) ?_
  intro p e s m args below meth c A ls Q hret hname hF hP hD hA hV hR0 hn hPL hnl hl h hS
  have hx := hF.1
  have hb := hF.2.1
  have hml := hF.2.2.1
  have hown : s.vm.findClass RX0 = some m.cls := hF.2.2.2.1
  have htc := hF.2.2.2.2
  have hP : va_P D vwCl [] s.heap := hP
  have hD : va_D A [] := hD
  have hR0 : va_P D vwCl [(a_this, .inr (0, [.ref a_this_families, .ref a_this_places, .int f_this_used, .long f_this_product])), (a_this_places, .inl (cJ, 10, .inr (.inl c_this_places)))] s.heap := hR0
  have hR := hR0
  have hl : lv_has ls 2 [(0, .ref a_this), (1, .int v_p1)] := hl
  unfold fX0_placeAt at h
  refine lv_aload_n hx hb dX0_placeAt_0 rfl (lv_at hl 0 rfl) ?_
  refine va_get (D := D) (ci := 0) (v := .ref a_this_places) (C := RX0) (T := TX0) (N := 4) hx hb htc inX0 hown hV.1 hR 0 rfl rfl 1 (by decide) (htc _ w_1_94) (fun _ h9 => h9) rfl dX0_placeAt_1 ?_
  refine lv_iload_n hx hb dX0_placeAt_4 rfl (lv_at hl 1 rfl) ?_
  obtain ⟨r_5, hc_5, h⟩ := rk_bd h
  refine rk_l (wr := []) (va_runSN (As := [.ref a_this_places, .int v_p1]) (rest := []) hF (mtX9_at_ l D cI cJ cO PL _ a_this_places 10 c_this_places v_p1 r_5 hc_5) ⟨va_cnB 2 htc (rk_gw w_1_40) rfl rfl rfl (hV.2.1 _ nw_3_161) (htc _ w_1_1) (by decide +kernel) ⟨(Nat.le_of_ble_eq_true rfl), (Nat.le_of_ble_eq_true rfl)⟩, htc _ w_1_39, trivial⟩ (rk_preS hP hD hS hR hn hPL hnl hV [] [(false, 1)] rfl (by decide) rfl (by decide)) rfl rfl hl.1 rfl (lv_room (Nat.le_of_ble_eq_true rfl)) dX0_placeAt_5 ⟨(Nat.le_of_ble_eq_true rfl), (Nat.le_of_ble_eq_true rfl)⟩) hP hD hS hA hR0 hn [] [] rfl rfl (by decide) (by decide) (fun H locs hP hD hS hR => ?_)
  have hP : va_P D vwCl [] H := hP
  have hD : va_D A [] := hD
  exact hret r_5 _ _ _ _ h dX0_placeAt_8 hP hD hS
set_option maxHeartbeats 4000000 in
set_option maxRecDepth 100000 in
theorem mtX0_sizeAt (l : Launch) (D : va_G) (cI cJ cO : ClassId) (LP : List Nat) (FP : Nat → Fm) (sz : Nat) (a_this : Nat) (a_this_families : Nat) (a_this_places : Nat) (f_this_used : Int32) (f_this_product : Int64) (c_this_families : Nat → Option Nat) (v_p1 : Int32) (r0 : Int64) (h : fX0_sizeAt LP FP f_this_used c_this_families v_p1 = some r0) : Met l yX0_sizeAt (rk_w yX0_sizeAt cX0_sizeAt 3 (some .long)) rmX0_sizeAt (va_Pc [.ref a_this, .int v_p1] (rk_B D (rk_TY cI cJ cO) [] [(a_this, .inr (0, [.ref a_this_families, .ref a_this_places, .int f_this_used, .long f_this_product])), (a_this_families, .inl (cO, 10, .inr (.inr (.inr (.inr c_this_families)))))] (rk_pl LP FP) sz)) (rk_Ql r0 D [] [] sz) 0 0 (va_A [] sz) := by
  refine rk_metl h (fun x : Int64 => x) (fun x => []) (by decide) (Nat.le_of_ble_eq_true rfl) ?_
  intro p e s m args below meth c A ls Q hret hname hF hP hD hA hV hR0 hn hPL hnl hl h hS
  have hx := hF.1
  have hb := hF.2.1
  have hml := hF.2.2.1
  have hown : s.vm.findClass RX0 = some m.cls := hF.2.2.2.1
  have htc := hF.2.2.2.2
  have hP : va_P D vwCl [] s.heap := hP
  have hD : va_D A [] := hD
  have hR0 : va_P D vwCl [(a_this, .inr (0, [.ref a_this_families, .ref a_this_places, .int f_this_used, .long f_this_product])), (a_this_families, .inl (cO, 10, .inr (.inr (.inr (.inr c_this_families)))))] s.heap := hR0
  have hR := hR0
  have hl : lv_has ls 3 [(0, .ref a_this), (1, .int v_p1)] := hl
  unfold fX0_sizeAt at h
  refine lv_aload_n hx hb dX0_sizeAt_0 rfl (lv_at hl 0 rfl) ?_
  refine lv_iload_n hx hb dX0_sizeAt_1 rfl (lv_at hl 1 rfl) ?_
  obtain ⟨r_2, hc_2, h⟩ := rk_bd h
  refine rk_q (wr := []) (va_runV (C := RX0) (As := [.int v_p1]) (rest := []) hF (mtX0_familyAt l D cI cJ cO (rk_pl LP FP) _ a_this a_this_families a_this_places f_this_used f_this_product c_this_families v_p1 r_2 hc_2) (cwV 1 htc (rk_gV w_3_190 w_3_155 ws_24 w_1_4 w_3_156) rfl rfl rfl (by decide +kernel) ⟨(Nat.le_of_ble_eq_true rfl), (Nat.le_of_ble_eq_true rfl)⟩) (rk_preV (va_recv hV.1 hR (ci := 0) (q0 := 0) rfl rfl) (rk_preS hP hD hS hR hn hPL hnl hV [] [(false, 0), (false, 1)] rfl (by decide) rfl (by decide))) rfl rfl hl.1 rfl (lv_room (Nat.le_of_ble_eq_true rfl)) dX0_sizeAt_2 ⟨(Nat.le_of_ble_eq_true rfl), (Nat.le_of_ble_eq_true rfl)⟩) hP hD hS hA hR0 hn [] [] rfl rfl (by decide) (by decide) (fun H locs hP hD hS hR => ?_)
  have hP : va_P D vwCl [] H := hP
  have hD : va_D A [] := hD
  rcases r_2 with _ | a_2
  · have h := rk_en h
    refine lv_astore_nN (lv' := [(2, .null), (0, .ref a_this), (1, .int v_p1)]) hx hb dX0_sizeAt_5 rfl hl (by decide) rfl (fun ls hl => ?_)
    refine lv_aload_nN hx hb dX0_sizeAt_6 rfl (lv_at hl 0 rfl) ?_
    refine lv_ifnonnullN hx hb dX0_sizeAt_7 ?_
    refine lv_lconst (v := 1) hx hb dX0_sizeAt_10 (by decide) ?_
    refine lv_goto (tgt := 18) hx hb dX0_sizeAt_11 (by decide) ?_
    exact hret (1 : Int64) _ _ _ _ h dX0_sizeAt_18 hP hD hS
  have h := rk_es h
  obtain ⟨hm_2, h⟩ := rk_gp h
  obtain ⟨hR0, hn⟩ := rk_imp hm_2 hPL hnl hR0 hn
  have hR := rk_keep hR0 hn hS
  refine lv_astore_n (lv' := [(2, .ref a_2), (0, .ref a_this), (1, .int v_p1)]) hx hb dX0_sizeAt_5 rfl hl (by decide) rfl (fun ls hl => ?_)
  refine lv_aload_n hx hb dX0_sizeAt_6 rfl (lv_at hl 0 rfl) ?_
  refine lv_ifnonnull (tgt := 14) hx hb dX0_sizeAt_7 (by decide) ?_
  refine lv_aload_n hx hb dX0_sizeAt_14 rfl (lv_at hl 0 rfl) ?_
  refine rk_fget_size hx hb htc hown hV.1 hR 0 rfl (htc _ w_1_137) dX0_sizeAt_15 ?_
  exact hret ((FP a_2).2.2.2.1) _ _ _ _ h dX0_sizeAt_18 hP hD hS
set_option maxHeartbeats 4000000 in
set_option maxRecDepth 100000 in
theorem mtX0_dropAll (l : Launch) (D : va_G) (cI cJ cO : ClassId) (PL : va_W) (sz : Nat) (a_this : Nat) (a_this_families : Nat) (a_this_places : Nat) (f_this_used : Int32) (f_this_product : Int64) (r0 : Int32 × Int32 × Int64) (h : fX0_dropAll f_this_used = some r0) : Met l yX0_dropAll (rk_w yX0_dropAll cX0_dropAll 2 (some .int)) rmX0_dropAll (va_Pc [.ref a_this] (rk_B D (rk_TY cI cJ cO) [(a_this, .inr (0, [.ref a_this_families, .ref a_this_places, .int f_this_used, .long f_this_product]))] [] PL sz)) (rk_Qi r0.1 D [(a_this, .inr (0, [.ref a_this_families, .ref a_this_places, .int r0.2.1, .long r0.2.2]))] [(a_this, .inr (0, [.ref a_this_families, .ref a_this_places, .int f_this_used, .long f_this_product]))] sz) 0 0 (va_A [(a_this, .inr (0, [.ref a_this_families, .ref a_this_places, .int f_this_used, .long f_this_product]))] sz) := by
  refine rk_meti h (fun x : Int32 × Int32 × Int64 => x.1) (fun x => [(a_this, .inr (0, [.ref a_this_families, .ref a_this_places, .int x.2.1, .long x.2.2]))]) (by decide) (Nat.le_of_ble_eq_true rfl) ?_
  intro p e s m args below meth c A ls Q hret hname hF hP hD hA hV hR0 hn hPL hnl hl h hS
  have hx := hF.1
  have hb := hF.2.1
  have hml := hF.2.2.1
  have hown : s.vm.findClass RX0 = some m.cls := hF.2.2.2.1
  have htc := hF.2.2.2.2
  have hP : va_P D vwCl [(a_this, .inr (0, [.ref a_this_families, .ref a_this_places, .int f_this_used, .long f_this_product]))] s.heap := hP
  have hD : va_D A [(a_this, .inr (0, [.ref a_this_families, .ref a_this_places, .int f_this_used, .long f_this_product]))] := hD
  have hR0 : va_P D vwCl [] s.heap := hR0
  have hR := hR0
  have hl : lv_has ls 2 [(0, .ref a_this)] := hl
  unfold fX0_dropAll at h
  refine lv_aload_n hx hb dX0_dropAll_0 rfl (lv_at hl 0 rfl) ?_
  refine va_get (D := D) (ci := 0) (v := .int f_this_used) (C := RX0) (T := TX0) (N := 4) hx hb htc inX0 hown hV.1 hP 0 rfl rfl 2 (by decide) (htc _ w_1_95) (fun _ h9 => h9) rfl dX0_dropAll_1 ?_
  refine lv_istore_n (lv' := [(1, .int f_this_used), (0, .ref a_this)]) hx hb dX0_dropAll_4 rfl hl (by decide) rfl (fun ls hl => ?_)
  refine lv_aload_n hx hb dX0_dropAll_5 rfl (lv_at hl 1 rfl) ?_
  refine lv_iconst (v := 0) hx hb dX0_dropAll_6 (by decide) ?_
  refine va_put (D := D) (ci := 0) (v := .int (0 : Int32)) (ty := .int) (C := RX0) (T := TX0) (N := 4) hx hb htc inX0 tyX0 tyX0_ok nmX0 hown hV.1 hP hD hS 0 rfl rfl 2 (by decide) (htc _ w_1_95) (fun _ h9 => h9) rfl (by decide +kernel) rfl rfl (Nat.le_of_ble_eq_true rfl) dX0_dropAll_7 (fun H locs hP hD hS => ?_)
  have hP : va_P D vwCl [(a_this, .inr (0, [.ref a_this_families, .ref a_this_places, .int (0 : Int32), .long f_this_product]))] H := hP
  have hD : va_D A [(a_this, .inr (0, [.ref a_this_families, .ref a_this_places, .int (0 : Int32), .long f_this_product]))] := hD
  refine lv_aload_n hx hb dX0_dropAll_10 rfl (lv_at hl 1 rfl) ?_
  refine lv_lconst (v := 1) hx hb dX0_dropAll_11 (by decide) ?_
  refine va_put (D := D) (ci := 0) (v := .long (1 : Int64)) (ty := .long) (C := RX0) (T := TX0) (N := 4) hx hb htc inX0 tyX0 tyX0_ok nmX0 hown hV.1 hP hD hS 0 rfl rfl 3 (by decide) (htc _ w_1_97) (fun _ h9 => h9) rfl (by decide +kernel) rfl rfl (Nat.le_of_ble_eq_true rfl) dX0_dropAll_12 (fun H locs hP hD hS => ?_)
  have hP : va_P D vwCl [(a_this, .inr (0, [.ref a_this_families, .ref a_this_places, .int (0 : Int32), .long (1 : Int64)]))] H := hP
  have hD : va_D A [(a_this, .inr (0, [.ref a_this_families, .ref a_this_places, .int (0 : Int32), .long (1 : Int64)]))] := hD
  refine lv_iload_n hx hb dX0_dropAll_15 rfl (lv_at hl 0 rfl) ?_
  exact hret (f_this_used, (0 : Int32), (1 : Int64)) _ _ _ _ h dX0_dropAll_16 hP hD hS
set_option maxHeartbeats 4000000 in
set_option maxRecDepth 100000 in
theorem mtX0_packed (l : Launch) (D : va_G) (cI cJ cO : ClassId) (LP : List Nat) (FP : Nat → Fm) (sz : Nat) (a_this : Nat) (a_this_families : Nat) (a_this_places : Nat) (f_this_used : Int32) (f_this_product : Int64) (c_this_families : Nat → Option Nat) (c_this_places : Nat → Int64) (r0 : Int64) (h : fX0_packed LP FP f_this_used c_this_families c_this_places = some r0) : Met l yX0_packed (rk_w yX0_packed cX0_packed 4 (some .long)) rmX0_packed (va_Pc [.ref a_this] (rk_B D (rk_TY cI cJ cO) [] [(a_this, .inr (0, [.ref a_this_families, .ref a_this_places, .int f_this_used, .long f_this_product])), (a_this_families, .inl (cO, 10, .inr (.inr (.inr (.inr c_this_families))))), (a_this_places, .inl (cJ, 10, .inr (.inl c_this_places)))] (rk_pl LP FP) sz)) (rk_Ql r0 D [] [] sz) 0 0 (va_A [] sz) := by
  refine rk_metl h (fun x : Int64 => x) (fun x => []) (by decide) (Nat.le_of_ble_eq_true rfl) ?_
  intro p e s m args below meth c A ls Q hret hname hF hP hD hA hV hR0 hn hPL hnl hl h hS
  have hx := hF.1
  have hb := hF.2.1
  have hml := hF.2.2.1
  have hown : s.vm.findClass RX0 = some m.cls := hF.2.2.2.1
  have htc := hF.2.2.2.2
  have hP : va_P D vwCl [] s.heap := hP
  have hD : va_D A [] := hD
  have hR0 : va_P D vwCl [(a_this, .inr (0, [.ref a_this_families, .ref a_this_places, .int f_this_used, .long f_this_product])), (a_this_families, .inl (cO, 10, .inr (.inr (.inr (.inr c_this_families))))), (a_this_places, .inl (cJ, 10, .inr (.inl c_this_places)))] s.heap := hR0
  have hR := hR0
  have hl : lv_has ls 4 [(0, .ref a_this)] := hl
  unfold fX0_packed at h
  refine lv_lconst (v := 0) hx hb dX0_packed_0 (by decide) ?_
  refine lv_lstore_n (lv' := [(1, .long (0 : Int64)), (0, .ref a_this)]) hx hb dX0_packed_1 rfl hl (by decide) rfl (fun ls hl => ?_)
  refine lv_iconst (v := 0) hx hb dX0_packed_2 (by decide) ?_
  refine lv_istore_n (lv' := [(3, .int (0 : Int32)), (1, .long (0 : Int64)), (0, .ref a_this)]) hx hb dX0_packed_3 rfl hl (by decide) rfl (fun ls hl => ?_)
  have L4 : ∀ (n4 : Nat) (b4_l1 : Int64) (b4_l3 : Int32), rk_it2 (fX0_packed_L4 f_this_used c_this_families c_this_places LP FP) n4 b4_l1 b4_l3 = some r0 → ∀ (H : Heap) (locs : List Loc), va_P D vwCl [] H → va_D A [] → va_S A s.heap H locs → ∀ (ls : Array Slot), lv_has ls 4 [(0, .ref a_this), (1, .long b4_l1), (3, .int b4_l3)] → W p l e rmX0_packed s m args below meth c H locs 0 0 Q (F0 m 4 ls []) := by
    intro n4
    induction n4 with
    | zero => intro b4_l1 b4_l3 h; exact rk_no h
    | succ n4 ih4 =>
      intro b4_l1 b4_l3 h H locs hP hD hS ls hl
      have h : fX0_packed_L4 f_this_used c_this_families c_this_places LP FP (rk_it2 (fX0_packed_L4 f_this_used c_this_families c_this_places LP FP) n4) b4_l1 b4_l3 = some r0 := h
      unfold fX0_packed_L4 at h
      have hR := rk_keep hR0 hn hS
      refine lv_iload_n hx hb dX0_packed_4 rfl (lv_at hl 2 rfl) ?_
      refine lv_aload_n hx hb dX0_packed_5 rfl (lv_at hl 0 rfl) ?_
      refine va_get (D := D) (ci := 0) (v := .int f_this_used) (C := RX0) (T := TX0) (N := 4) hx hb htc inX0 hown hV.1 hR 0 rfl rfl 2 (by decide) (htc _ w_1_95) (fun _ h9 => h9) rfl dX0_packed_6 ?_
      refine lv_icmp_ge (tgt := 32) hx hb dX0_packed_9 (by decide) (fun hc1 => ?_) (fun hc1 => ?_)
      · have h := rk_if hc1 h
        refine lv_lload_n hx hb dX0_packed_32 rfl (lv_at hl 1 rfl) ?_
        exact hret b4_l1 _ _ _ _ h dX0_packed_33 hP hD hS
      · have h := rk_nif hc1 h
        refine lv_lload_n hx hb dX0_packed_12 rfl (lv_at hl 1 rfl) ?_
        refine lv_aload_n hx hb dX0_packed_13 rfl (lv_at hl 0 rfl) ?_
        refine lv_iload_n hx hb dX0_packed_14 rfl (lv_at hl 2 rfl) ?_
        obtain ⟨r_15, hc_15, h⟩ := rk_bd h
        refine rk_l (wr := []) (va_runV (C := RX0) (As := [.int b4_l3]) (rest := [.long b4_l1]) hF (mtX0_sizeAt l D cI cJ cO LP FP _ a_this a_this_families a_this_places f_this_used f_this_product c_this_families b4_l3 r_15 hc_15) (cwV 1 htc (rk_gV w_3_186 w_3_188 ws_28 w_1_4 w_3_189) rfl rfl rfl (by decide +kernel) ⟨(Nat.le_of_ble_eq_true rfl), (Nat.le_of_ble_eq_true rfl)⟩) (rk_preV (va_recv hV.1 hR (ci := 0) (q0 := 0) rfl rfl) (rk_preS hP hD hS hR hn hPL hnl hV [] [(false, 0), (false, 1)] rfl (by decide) rfl (by decide))) rfl rfl hl.1 rfl (lv_room (Nat.le_of_ble_eq_true rfl)) dX0_packed_15 ⟨(Nat.le_of_ble_eq_true rfl), (Nat.le_of_ble_eq_true rfl)⟩) hP hD hS hA hR0 hn [] [] rfl rfl (by decide) (by decide) (fun H locs hP hD hS hR => ?_)
        have hP : va_P D vwCl [] H := hP
        have hD : va_D A [] := hD
        refine lv_lmul hx hb dX0_packed_18 ?_
        refine lv_aload_n hx hb dX0_packed_19 rfl (lv_at hl 0 rfl) ?_
        refine lv_iload_n hx hb dX0_packed_20 rfl (lv_at hl 2 rfl) ?_
        obtain ⟨r_21, hc_21, h⟩ := rk_bd h
        refine rk_l (wr := []) (va_runV (C := RX0) (As := [.int b4_l3]) (rest := [.long (b4_l1 * r_15)]) hF (mtX0_placeAt l D cI cJ cO (rk_pl LP FP) _ a_this a_this_families a_this_places f_this_used f_this_product c_this_places b4_l3 r_21 hc_21) (cwV 1 htc (rk_gV w_3_191 w_3_159 ws_25 w_1_4 w_3_160) rfl rfl rfl (by decide +kernel) ⟨(Nat.le_of_ble_eq_true rfl), (Nat.le_of_ble_eq_true rfl)⟩) (rk_preV (va_recv hV.1 hR (ci := 0) (q0 := 0) rfl rfl) (rk_preS hP hD hS hR hn hPL hnl hV [] [(false, 0), (false, 2)] rfl (by decide) rfl (by decide))) rfl rfl hl.1 rfl (lv_room (Nat.le_of_ble_eq_true rfl)) dX0_packed_21 ⟨(Nat.le_of_ble_eq_true rfl), (Nat.le_of_ble_eq_true rfl)⟩) hP hD hS hA hR0 hn [] [] rfl rfl (by decide) (by decide) (fun H locs hP hD hS hR => ?_)
        have hP : va_P D vwCl [] H := hP
        have hD : va_D A [] := hD
        refine lv_ladd hx hb dX0_packed_24 ?_
        refine lv_lstore_n (lv' := [(1, .long ((b4_l1 * r_15) + r_21)), (0, .ref a_this), (3, .int b4_l3)]) hx hb dX0_packed_25 rfl hl (by decide) rfl (fun ls hl => ?_)
        refine lv_iinc (v := (b4_l3 + 1)) (lv' := [(3, .int (b4_l3 + 1)), (1, .long ((b4_l1 * r_15) + r_21)), (0, .ref a_this)]) hx hb dX0_packed_26 hl (k := 2) rfl rfl (by decide) rfl (fun ls hl => ?_)
        refine lv_goto (tgt := 4) hx hb dX0_packed_29 (by decide) ?_
        exact ih4 ((b4_l1 * r_15) + r_21) (b4_l3 + 1) h _ _ hP hD hS _ (lv_sub hl [2, 1, 0] rfl)
  exact L4 FU (0 : Int64) (0 : Int32) h _ _ hP hD hS _ (lv_sub hl [2, 1, 0] rfl)
set_option maxHeartbeats 4000000 in
set_option maxRecDepth 100000 in
theorem mtX9_remainder (l : Launch) (D : va_G) (cI cJ cO : ClassId) (PL : va_W) (sz : Nat) (v_p0 : Int64) (v_p2 : Int64) (r0 : Int64) (h : fX9_remainder v_p0 v_p2 = some r0) : Met l yX9_remainder (rk_w yX9_remainder cX9_remainder 4 (some .long)) rmX9_remainder (va_Pc [.long v_p0, .long v_p2] (rk_B D (rk_TY cI cJ cO) [] [] PL sz)) (rk_Ql r0 D [] [] sz) 0 0 (va_A [] sz) := by
  refine rk_metl h (fun x : Int64 => x) (fun x => []) (by decide) (Nat.le_of_ble_eq_true rfl) ?_
  intro p e s m args below meth c A ls Q hret hname hF hP hD hA hV hR0 hn hPL hnl hl h hS
  have hx := hF.1
  have hb := hF.2.1
  have hml := hF.2.2.1
  have hown : s.vm.findClass RX9 = some m.cls := hF.2.2.2.1
  have htc := hF.2.2.2.2
  have hP : va_P D vwCl [] s.heap := hP
  have hD : va_D A [] := hD
  have hR0 : va_P D vwCl [] s.heap := hR0
  have hR := hR0
  have hl : lv_has ls 4 [(0, .long v_p0), (2, .long v_p2)] := hl
  unfold fX9_remainder at h
  refine lv_lload_n hx hb dX9_remainder_0 rfl (lv_at hl 1 rfl) ?_
  refine lv_lconst (v := 0) hx hb dX9_remainder_1 (by decide) ?_
  refine rk_lcle (tgt := 12) hx hb dX9_remainder_2 dX9_remainder_3 (by decide) (fun hc1 => ?_) (fun hc1 => ?_)
  · have h := rk_if hc1 h
    refine lv_lconst (v := 0) hx hb dX9_remainder_12 (by decide) ?_
    exact hret (0 : Int64) _ _ _ _ h dX9_remainder_13 hP hD hS
  · have h := rk_nif hc1 h
    refine lv_lload_n hx hb dX9_remainder_6 rfl (lv_at hl 0 rfl) ?_
    refine lv_lload_n hx hb dX9_remainder_7 rfl (lv_at hl 1 rfl) ?_
    obtain ⟨hz2, h⟩ := rk_gd h
    refine lv_lrem hx hb dX9_remainder_8 hz2 ?_
    refine lv_goto (tgt := 13) hx hb dX9_remainder_9 (by decide) ?_
    exact hret (v_p0 - v_p0 / v_p2 * v_p2) _ _ _ _ h dX9_remainder_13 hP hD hS
set_option maxHeartbeats 4000000 in
set_option maxRecDepth 100000 in
theorem mtX0_unpack (l : Launch) (D : va_G) (cI cJ cO : ClassId) (LP : List Nat) (FP : Nat → Fm) (sz : Nat) (a_this : Nat) (a_this_families : Nat) (a_this_places : Nat) (f_this_used : Int32) (f_this_product : Int64) (c_this_places : Nat → Int64) (c_this_families : Nat → Option Nat) (v_p1 : Int64) (r0 : Int32 × (Nat → Int64)) (h : fX0_unpack LP FP f_this_used c_this_places c_this_families v_p1 = some r0) : Met l yX0_unpack (rk_w yX0_unpack cX0_unpack 9 (some .int)) rmX0_unpack (va_Pc [.ref a_this, .long v_p1] (rk_B D (rk_TY cI cJ cO) [(a_this_places, .inl (cJ, 10, .inr (.inl c_this_places)))] [(a_this, .inr (0, [.ref a_this_families, .ref a_this_places, .int f_this_used, .long f_this_product])), (a_this_families, .inl (cO, 10, .inr (.inr (.inr (.inr c_this_families)))))] (rk_pl LP FP) sz)) (rk_Qi r0.1 D [(a_this_places, .inl (cJ, 10, .inr (.inl r0.2)))] [(a_this_places, .inl (cJ, 10, .inr (.inl c_this_places)))] sz) 0 0 (va_A [(a_this_places, .inl (cJ, 10, .inr (.inl c_this_places)))] sz) := by
  refine rk_meti h (fun x : Int32 × (Nat → Int64) => x.1) (fun x => [(a_this_places, .inl (cJ, 10, .inr (.inl x.2)))]) (by decide) (Nat.le_of_ble_eq_true rfl) ?_
  intro p e s m args below meth c A ls Q hret hname hF hP hD hA hV hR0 hn hPL hnl hl h hS
  have hx := hF.1
  have hb := hF.2.1
  have hml := hF.2.2.1
  have hown : s.vm.findClass RX0 = some m.cls := hF.2.2.2.1
  have htc := hF.2.2.2.2
  have hP : va_P D vwCl [(a_this_places, .inl (cJ, 10, .inr (.inl c_this_places)))] s.heap := hP
  have hD : va_D A [(a_this_places, .inl (cJ, 10, .inr (.inl c_this_places)))] := hD
  have hR0 : va_P D vwCl [(a_this, .inr (0, [.ref a_this_families, .ref a_this_places, .int f_this_used, .long f_this_product])), (a_this_families, .inl (cO, 10, .inr (.inr (.inr (.inr c_this_families)))))] s.heap := hR0
  have hR := hR0
  have hl : lv_has ls 9 [(0, .ref a_this), (1, .long v_p1)] := hl
  unfold fX0_unpack at h
  refine lv_lload_n hx hb dX0_unpack_0 rfl (lv_at hl 1 rfl) ?_
  refine lv_lstore_n (lv' := [(3, .long v_p1), (0, .ref a_this), (1, .long v_p1)]) hx hb dX0_unpack_1 rfl hl (by decide) rfl (fun ls hl => ?_)
  refine lv_iconst (v := 0) hx hb dX0_unpack_2 (by decide) ?_
  refine lv_istore (lv' := [(5, .int (0 : Int32)), (3, .long v_p1), (0, .ref a_this), (1, .long v_p1)]) hx hb dX0_unpack_3 hl (by decide) rfl (fun ls hl => ?_)
  refine lv_aload_n hx hb dX0_unpack_5 rfl (lv_at hl 2 rfl) ?_
  refine va_get (D := D) (ci := 0) (v := .int f_this_used) (C := RX0) (T := TX0) (N := 4) hx hb htc inX0 hown hV.1 hR 0 rfl rfl 2 (by decide) (htc _ w_1_95) (fun _ h9 => h9) rfl dX0_unpack_6 ?_
  refine lv_iconst (v := 1) hx hb dX0_unpack_9 (by decide) ?_
  refine lv_isub hx hb dX0_unpack_10 ?_
  refine lv_istore (lv' := [(6, .int (f_this_used - (1 : Int32))), (5, .int (0 : Int32)), (3, .long v_p1), (0, .ref a_this), (1, .long v_p1)]) hx hb dX0_unpack_11 hl (by decide) rfl (fun ls hl => ?_)
  have L13 : ∀ (n13 : Nat) (b13_l3 : Int64) (b13_l5 : Int32) (b13_l6 : Int32) (b13_c_this_places : Nat → Int64), rk_it4 (fX0_unpack_L13 f_this_used c_this_families LP FP) n13 b13_l3 b13_l5 b13_l6 b13_c_this_places = some r0 → ∀ (H : Heap) (locs : List Loc), va_P D vwCl [(a_this_places, .inl (cJ, 10, .inr (.inl b13_c_this_places)))] H → va_D A [(a_this_places, .inl (cJ, 10, .inr (.inl b13_c_this_places)))] → va_S A s.heap H locs → ∀ (ls : Array Slot), lv_has ls 9 [(0, .ref a_this), (3, .long b13_l3), (5, .int b13_l5), (6, .int b13_l6)] → W p l e rmX0_unpack s m args below meth c H locs 0 0 Q (F0 m 13 ls []) := by
    intro n13
    induction n13 with
    | zero => intro b13_l3 b13_l5 b13_l6 b13_c_this_places h; exact rk_no h
    | succ n13 ih13 =>
      intro b13_l3 b13_l5 b13_l6 b13_c_this_places h H locs hP hD hS ls hl
      have h : fX0_unpack_L13 f_this_used c_this_families LP FP (rk_it4 (fX0_unpack_L13 f_this_used c_this_families LP FP) n13) b13_l3 b13_l5 b13_l6 b13_c_this_places = some r0 := h
      unfold fX0_unpack_L13 at h
      have hR := rk_keep hR0 hn hS
      refine lv_iload hx hb dX0_unpack_13 (lv_at hl 3 rfl) ?_
      refine lv_if_lt (tgt := 73) hx hb dX0_unpack_15 (by decide) (fun hc1 => ?_) (fun hc1 => ?_)
      · have h := rk_if hc1 h
        refine lv_iload hx hb dX0_unpack_73 (lv_at hl 2 rfl) ?_
        exact hret (b13_l5, b13_c_this_places) _ _ _ _ h dX0_unpack_75 hP hD hS
      · have h := rk_nif hc1 h
        refine lv_lload_n hx hb dX0_unpack_18 rfl (lv_at hl 1 rfl) ?_
        refine lv_aload_n hx hb dX0_unpack_19 rfl (lv_at hl 0 rfl) ?_
        refine lv_iload hx hb dX0_unpack_20 (lv_at hl 3 rfl) ?_
        obtain ⟨r_22, hc_22, h⟩ := rk_bd h
        refine rk_l (wr := [(a_this_places, .inl (cJ, 10, .inr (.inl b13_c_this_places)))]) (va_runV (C := RX0) (As := [.int b13_l6]) (rest := [.long b13_l3]) hF (mtX0_sizeAt l D cI cJ cO LP FP _ a_this a_this_families a_this_places f_this_used f_this_product c_this_families b13_l6 r_22 hc_22) (cwV 1 htc (rk_gV w_3_186 w_3_188 ws_28 w_1_4 w_3_189) rfl rfl rfl (by decide +kernel) ⟨(Nat.le_of_ble_eq_true rfl), (Nat.le_of_ble_eq_true rfl)⟩) (rk_preV (va_recv hV.1 hR (ci := 0) (q0 := 0) rfl rfl) (rk_preS hP hD hS hR hn hPL hnl hV [] [(false, 0), (false, 1)] rfl (by decide) rfl (by decide))) rfl rfl hl.1 rfl (lv_room (Nat.le_of_ble_eq_true rfl)) dX0_unpack_22 ⟨(Nat.le_of_ble_eq_true rfl), (Nat.le_of_ble_eq_true rfl)⟩) hP hD hS hA hR0 hn [] [0] rfl rfl (by decide) (by decide) (fun H locs hP hD hS hR => ?_)
        have hP : va_P D vwCl [(a_this_places, .inl (cJ, 10, .inr (.inl b13_c_this_places)))] H := hP
        have hD : va_D A [(a_this_places, .inl (cJ, 10, .inr (.inl b13_c_this_places)))] := hD
        obtain ⟨r_25, hc_25, h⟩ := rk_bd h
        refine rk_l (wr := [(a_this_places, .inl (cJ, 10, .inr (.inl b13_c_this_places)))]) (va_runSN (As := [.long b13_l3, .long r_22]) (rest := []) hF (mtX9_remainder l D cI cJ cO (rk_pl LP FP) _ b13_l3 r_22 r_25 hc_25) ⟨va_cnB 2 htc (rk_gw w_1_228) rfl rfl rfl (hV.2.1 _ nw_3_200) (htc _ w_1_1) (by decide +kernel) ⟨(Nat.le_of_ble_eq_true rfl), (Nat.le_of_ble_eq_true rfl)⟩, htc _ w_1_227, trivial⟩ (rk_preS hP hD hS hR hn hPL hnl hV [] [] rfl (by decide) rfl (by decide)) rfl rfl hl.1 rfl (lv_room (Nat.le_of_ble_eq_true rfl)) dX0_unpack_25 ⟨(Nat.le_of_ble_eq_true rfl), (Nat.le_of_ble_eq_true rfl)⟩) hP hD hS hA hR0 hn [] [0] rfl rfl (by decide) (by decide) (fun H locs hP hD hS hR => ?_)
        have hP : va_P D vwCl [(a_this_places, .inl (cJ, 10, .inr (.inl b13_c_this_places)))] H := hP
        have hD : va_D A [(a_this_places, .inl (cJ, 10, .inr (.inl b13_c_this_places)))] := hD
        refine lv_lstore (lv' := [(7, .long r_25), (0, .ref a_this), (3, .long b13_l3), (5, .int b13_l5), (6, .int b13_l6)]) hx hb dX0_unpack_28 hl (by decide) rfl (fun ls hl => ?_)
        refine lv_lload_n hx hb dX0_unpack_30 rfl (lv_at hl 2 rfl) ?_
        refine lv_aload_n hx hb dX0_unpack_31 rfl (lv_at hl 1 rfl) ?_
        refine lv_iload hx hb dX0_unpack_32 (lv_at hl 4 rfl) ?_
        obtain ⟨r_34, hc_34, h⟩ := rk_bd h
        refine rk_l (wr := [(a_this_places, .inl (cJ, 10, .inr (.inl b13_c_this_places)))]) (va_runV (C := RX0) (As := [.int b13_l6]) (rest := [.long b13_l3]) hF (mtX0_sizeAt l D cI cJ cO LP FP _ a_this a_this_families a_this_places f_this_used f_this_product c_this_families b13_l6 r_34 hc_34) (cwV 1 htc (rk_gV w_3_186 w_3_188 ws_28 w_1_4 w_3_189) rfl rfl rfl (by decide +kernel) ⟨(Nat.le_of_ble_eq_true rfl), (Nat.le_of_ble_eq_true rfl)⟩) (rk_preV (va_recv hV.1 hR (ci := 0) (q0 := 0) rfl rfl) (rk_preS hP hD hS hR hn hPL hnl hV [] [(false, 0), (false, 1)] rfl (by decide) rfl (by decide))) rfl rfl hl.1 rfl (lv_room (Nat.le_of_ble_eq_true rfl)) dX0_unpack_34 ⟨(Nat.le_of_ble_eq_true rfl), (Nat.le_of_ble_eq_true rfl)⟩) hP hD hS hA hR0 hn [] [0] rfl rfl (by decide) (by decide) (fun H locs hP hD hS hR => ?_)
        have hP : va_P D vwCl [(a_this_places, .inl (cJ, 10, .inr (.inl b13_c_this_places)))] H := hP
        have hD : va_D A [(a_this_places, .inl (cJ, 10, .inr (.inl b13_c_this_places)))] := hD
        obtain ⟨r_37, hc_37, h⟩ := rk_bd h
        refine rk_l (wr := [(a_this_places, .inl (cJ, 10, .inr (.inl b13_c_this_places)))]) (va_runSN (As := [.long b13_l3, .long r_34]) (rest := []) hF (mtX9_quotient l D cI cJ cO (rk_pl LP FP) _ b13_l3 r_34 r_37 hc_37) ⟨va_cnB 2 htc (rk_gw w_1_231) rfl rfl rfl (hV.2.1 _ nw_3_139) (htc _ w_1_1) (by decide +kernel) ⟨(Nat.le_of_ble_eq_true rfl), (Nat.le_of_ble_eq_true rfl)⟩, htc _ w_1_230, trivial⟩ (rk_preS hP hD hS hR hn hPL hnl hV [] [] rfl (by decide) rfl (by decide)) rfl rfl hl.1 rfl (lv_room (Nat.le_of_ble_eq_true rfl)) dX0_unpack_37 ⟨(Nat.le_of_ble_eq_true rfl), (Nat.le_of_ble_eq_true rfl)⟩) hP hD hS hA hR0 hn [] [0] rfl rfl (by decide) (by decide) (fun H locs hP hD hS hR => ?_)
        have hP : va_P D vwCl [(a_this_places, .inl (cJ, 10, .inr (.inl b13_c_this_places)))] H := hP
        have hD : va_D A [(a_this_places, .inl (cJ, 10, .inr (.inl b13_c_this_places)))] := hD
        refine lv_lstore_n (lv' := [(3, .long r_37), (7, .long r_25), (0, .ref a_this), (5, .int b13_l5), (6, .int b13_l6)]) hx hb dX0_unpack_40 rfl hl (by decide) rfl (fun ls hl => ?_)
        refine lv_lload hx hb dX0_unpack_41 (lv_at hl 1 rfl) ?_
        refine lv_aload_n hx hb dX0_unpack_43 rfl (lv_at hl 2 rfl) ?_
        refine lv_iload hx hb dX0_unpack_44 (lv_at hl 4 rfl) ?_
        obtain ⟨r_46, hc_46, h⟩ := rk_bd h
        refine rk_l (wr := [(a_this_places, .inl (cJ, 10, .inr (.inl b13_c_this_places)))]) (va_runV (C := RX0) (As := [.int b13_l6]) (rest := [.long r_25]) hF (mtX0_placeAt l D cI cJ cO (rk_pl LP FP) _ a_this a_this_families a_this_places f_this_used f_this_product b13_c_this_places b13_l6 r_46 hc_46) (cwV 1 htc (rk_gV w_3_191 w_3_159 ws_25 w_1_4 w_3_160) rfl rfl rfl (by decide +kernel) ⟨(Nat.le_of_ble_eq_true rfl), (Nat.le_of_ble_eq_true rfl)⟩) (rk_preV (va_recv hV.1 hR (ci := 0) (q0 := 0) rfl rfl) (rk_preS hP hD hS hR hn hPL hnl hV [] [(false, 0), (true, 0)] rfl (by decide) rfl (by decide))) rfl rfl hl.1 rfl (lv_room (Nat.le_of_ble_eq_true rfl)) dX0_unpack_46 ⟨(Nat.le_of_ble_eq_true rfl), (Nat.le_of_ble_eq_true rfl)⟩) hP hD hS hA hR0 hn [] [0] rfl rfl (by decide) (by decide) (fun H locs hP hD hS hR => ?_)
        have hP : va_P D vwCl [(a_this_places, .inl (cJ, 10, .inr (.inl b13_c_this_places)))] H := hP
        have hD : va_D A [(a_this_places, .inl (cJ, 10, .inr (.inl b13_c_this_places)))] := hD
        have B67 : ∀ (b67_l5 : Int32) (b67_c_this_places : Nat → Int64), fX0_unpack_B67 b13_l6 (rk_it4 (fX0_unpack_L13 f_this_used c_this_families LP FP) n13) r_37 b67_l5 b67_c_this_places = some r0 → ∀ (H : Heap) (locs : List Loc), va_P D vwCl [(a_this_places, .inl (cJ, 10, .inr (.inl b67_c_this_places)))] H → va_D A [(a_this_places, .inl (cJ, 10, .inr (.inl b67_c_this_places)))] → va_S A s.heap H locs → ∀ (ls : Array Slot), lv_has ls 9 [(0, .ref a_this), (3, .long r_37), (5, .int b67_l5), (6, .int b13_l6)] → W p l e rmX0_unpack s m args below meth c H locs 0 0 Q (F0 m 67 ls []) := by
          intro b67_l5 b67_c_this_places h H locs hP hD hS ls hl
          unfold fX0_unpack_B67 at h
          have hR := rk_keep hR0 hn hS
          refine lv_iinc (v := (b13_l6 + (-1))) (lv' := [(6, .int (b13_l6 + (-1))), (0, .ref a_this), (3, .long r_37), (5, .int b67_l5)]) hx hb dX0_unpack_67 hl (k := 3) rfl rfl (by decide) rfl (fun ls hl => ?_)
          refine lv_goto (tgt := 13) hx hb dX0_unpack_70 (by decide) ?_
          exact ih13 r_37 b67_l5 (b13_l6 + (-1)) b67_c_this_places h _ _ hP hD hS _ (lv_sub hl [1, 2, 3, 0] rfl)
        refine rk_lceq (tgt := 67) hx hb dX0_unpack_49 dX0_unpack_50 (by decide) (fun hc2 => ?_) (fun hc2 => ?_)
        · have h := rk_if hc2 h
          exact B67 b13_l5 b13_c_this_places h _ _ hP hD hS _ (lv_sub hl [2, 0, 3, 4] rfl)
        · have h := rk_nif hc2 h
          refine lv_aload_n hx hb dX0_unpack_53 rfl (lv_at hl 2 rfl) ?_
          refine va_get (D := D) (ci := 0) (v := .ref a_this_places) (C := RX0) (T := TX0) (N := 4) hx hb htc inX0 hown hV.1 hR 0 rfl rfl 1 (by decide) (htc _ w_1_94) (fun _ h9 => h9) rfl dX0_unpack_54 ?_
          refine lv_iload hx hb dX0_unpack_57 (lv_at hl 4 rfl) ?_
          refine lv_lload hx hb dX0_unpack_59 (lv_at hl 1 rfl) ?_
          obtain ⟨r_61, hc_61, h⟩ := rk_bd h
          refine rk_v (wr := []) (va_runSN (As := [.ref a_this_places, .int b13_l6, .long r_25]) (rest := []) hF (mtX9_set_ l D cI cJ cO (rk_pl LP FP) _ a_this_places 10 b13_c_this_places b13_l6 r_25 r_61 hc_61) ⟨va_cnB 3 htc (rk_gw w_1_37) rfl rfl rfl (hV.2.1 _ nw_3_148) (htc _ w_1_1) (by decide +kernel) ⟨(Nat.le_of_ble_eq_true rfl), (Nat.le_of_ble_eq_true rfl)⟩, htc _ w_1_36, trivial⟩ (rk_preS hP hD hS hR hn hPL hnl hV [0] [] rfl (by decide) rfl (by decide)) rfl rfl hl.1 rfl (lv_room (Nat.le_of_ble_eq_true rfl)) dX0_unpack_61 ⟨(Nat.le_of_ble_eq_true rfl), (Nat.le_of_ble_eq_true rfl)⟩) hP hD hS hA hR0 hn [0] [] rfl rfl (by decide) (by decide) (fun H locs hP hD hS hR => ?_)
          have hP : va_P D vwCl [(a_this_places, .inl (cJ, 10, .inr (.inl r_61)))] H := hP
          have hD : va_D A [(a_this_places, .inl (cJ, 10, .inr (.inl r_61)))] := hD
          refine lv_iinc (v := (b13_l5 + 1)) (lv' := [(5, .int (b13_l5 + 1)), (3, .long r_37), (7, .long r_25), (0, .ref a_this), (6, .int b13_l6)]) hx hb dX0_unpack_64 hl (k := 3) rfl rfl (by decide) rfl (fun ls hl => ?_)
          exact B67 (b13_l5 + 1) r_61 h _ _ hP hD hS _ (lv_sub hl [3, 1, 0, 4] rfl)
  exact L13 FU v_p1 (0 : Int32) (f_this_used - (1 : Int32)) c_this_places h _ _ hP hD hS _ (lv_sub hl [3, 2, 1, 0] rfl)
set_option maxHeartbeats 4000000 in
set_option maxRecDepth 100000 in
theorem mtJ6_compare_7cf53 (l : Launch) (D : va_G) (cI cJ cO : ClassId) (PL : va_W) (sz : Nat) (v_p0 : Int32) (v_p1 : Int32) (r0 : Int32) (h : fJ6_compare_7cf53 v_p0 v_p1 = some r0) : Met l yJ6_compare_7cf53 (rk_w yJ6_compare_7cf53 cJ6_compare_7cf53 2 (some .int)) rmJ6_compare_7cf53 (va_Pc [.int v_p0, .int v_p1] (rk_B D (rk_TY cI cJ cO) [] [] PL sz)) (rk_Qi r0 D [] [] sz) 0 0 (va_A [] sz) := by
  refine rk_meti h (fun x : Int32 => x) (fun x => []) (by decide) (Nat.le_of_ble_eq_true rfl) ?_
  intro p e s m args below meth c A ls Q hret hname hF hP hD hA hV hR0 hn hPL hnl hl h hS
  have hx := hF.1
  have hb := hF.2.1
  have hml := hF.2.2.1
  have hown : s.vm.findClass RJ6 = some m.cls := hF.2.2.2.1
  have htc := hF.2.2.2.2
  have hP : va_P D vwCl [] s.heap := hP
  have hD : va_D A [] := hD
  have hR0 : va_P D vwCl [] s.heap := hR0
  have hR := hR0
  have hl : lv_has ls 2 [(0, .int v_p0), (1, .int v_p1)] := hl
  unfold fJ6_compare_7cf53 at h
  refine lv_iload_n hx hb dJ6_compare_7cf53_0 rfl (lv_at hl 0 rfl) ?_
  refine lv_iload_n hx hb dJ6_compare_7cf53_1 rfl (lv_at hl 1 rfl) ?_
  refine lv_icmp_ge (tgt := 9) hx hb dJ6_compare_7cf53_2 (by decide) (fun hc1 => ?_) (fun hc1 => ?_)
  · have h := rk_if hc1 h
    refine lv_iload_n hx hb dJ6_compare_7cf53_9 rfl (lv_at hl 0 rfl) ?_
    refine lv_iload_n hx hb dJ6_compare_7cf53_10 rfl (lv_at hl 1 rfl) ?_
    refine lv_icmp_ne (tgt := 18) hx hb dJ6_compare_7cf53_11 (by decide) (fun hc2 => ?_) (fun hc2 => ?_)
    · have h := rk_if hc2 h
      refine lv_iconst (v := 1) hx hb dJ6_compare_7cf53_18 (by decide) ?_
      exact hret (1 : Int32) _ _ _ _ h dJ6_compare_7cf53_19 hP hD hS
    · have h := rk_nnif hc2 h
      refine lv_iconst (v := 0) hx hb dJ6_compare_7cf53_14 (by decide) ?_
      refine lv_goto (tgt := 19) hx hb dJ6_compare_7cf53_15 (by decide) ?_
      exact hret (0 : Int32) _ _ _ _ h dJ6_compare_7cf53_19 hP hD hS
  · have h := rk_nif hc1 h
    refine lv_iconst (v := (-1)) hx hb dJ6_compare_7cf53_5 (by decide) ?_
    refine lv_goto (tgt := 19) hx hb dJ6_compare_7cf53_6 (by decide) ?_
    exact hret (-1 : Int32) _ _ _ _ h dJ6_compare_7cf53_19 hP hD hS
set_option maxHeartbeats 4000000 in
set_option maxRecDepth 100000 in
theorem mtJ13_compare_74951 (l : Launch) (D : va_G) (cI cJ cO : ClassId) (PL : va_W) (sz : Nat) (v_p0 : Int64) (v_p2 : Int64) (r0 : Int32) (h : fJ13_compare_74951 v_p0 v_p2 = some r0) : Met l yJ13_compare_74951 (rk_w yJ13_compare_74951 cJ13_compare_74951 4 (some .int)) rmJ13_compare_74951 (va_Pc [.long v_p0, .long v_p2] (rk_B D (rk_TY cI cJ cO) [] [] PL sz)) (rk_Qi r0 D [] [] sz) 0 0 (va_A [] sz) := by
  refine rk_meti h (fun x : Int32 => x) (fun x => []) (by decide) (Nat.le_of_ble_eq_true rfl) ?_
  intro p e s m args below meth c A ls Q hret hname hF hP hD hA hV hR0 hn hPL hnl hl h hS
  have hx := hF.1
  have hb := hF.2.1
  have hml := hF.2.2.1
  have hown : s.vm.findClass RJ13 = some m.cls := hF.2.2.2.1
  have htc := hF.2.2.2.2
  have hP : va_P D vwCl [] s.heap := hP
  have hD : va_D A [] := hD
  have hR0 : va_P D vwCl [] s.heap := hR0
  have hR := hR0
  have hl : lv_has ls 4 [(0, .long v_p0), (2, .long v_p2)] := hl
  unfold fJ13_compare_74951 at h
  refine lv_lload_n hx hb dJ13_compare_74951_0 rfl (lv_at hl 0 rfl) ?_
  refine lv_lload_n hx hb dJ13_compare_74951_1 rfl (lv_at hl 1 rfl) ?_
  refine rk_lcge (tgt := 10) hx hb dJ13_compare_74951_2 dJ13_compare_74951_3 (by decide) (fun hc1 => ?_) (fun hc1 => ?_)
  · have h := rk_if hc1 h
    refine lv_lload_n hx hb dJ13_compare_74951_10 rfl (lv_at hl 0 rfl) ?_
    refine lv_lload_n hx hb dJ13_compare_74951_11 rfl (lv_at hl 1 rfl) ?_
    refine rk_lcne (tgt := 20) hx hb dJ13_compare_74951_12 dJ13_compare_74951_13 (by decide) (fun hc2 => ?_) (fun hc2 => ?_)
    · have h := rk_if hc2 h
      refine lv_iconst (v := 1) hx hb dJ13_compare_74951_20 (by decide) ?_
      exact hret (1 : Int32) _ _ _ _ h dJ13_compare_74951_21 hP hD hS
    · have h := rk_nnif hc2 h
      refine lv_iconst (v := 0) hx hb dJ13_compare_74951_16 (by decide) ?_
      refine lv_goto (tgt := 21) hx hb dJ13_compare_74951_17 (by decide) ?_
      exact hret (0 : Int32) _ _ _ _ h dJ13_compare_74951_21 hP hD hS
  · have h := rk_nif hc1 h
    refine lv_iconst (v := (-1)) hx hb dJ13_compare_74951_6 (by decide) ?_
    refine lv_goto (tgt := 21) hx hb dJ13_compare_74951_7 (by decide) ?_
    exact hret (-1 : Int32) _ _ _ _ h dJ13_compare_74951_21 hP hD hS
set_option maxHeartbeats 4000000 in
set_option maxRecDepth 100000 in
theorem mtX6_setting (l : Launch) (D : va_G) (cI cJ cO : ClassId) (PL : va_W) (sz : Nat) (a_this : Nat) (f_this_number : Int32) (f_this_width : Int32) (f_this_size : Int64) (f_this_n : Int32) (f_this_order : Int32) (v_p1 : Int32) (r0 : Int32) (h : fX6_setting f_this_width f_this_n f_this_order v_p1 = some r0) : Met l yX6_setting (rk_w yX6_setting cX6_setting 2 (some .int)) rmX6_setting (va_Pc [.ref a_this, .int v_p1] (rk_B D (rk_TY cI cJ cO) [] [(a_this, .inr (5, [.int f_this_number, .int f_this_width, .long f_this_size, .int f_this_n, .int f_this_order]))] PL sz)) (rk_Qi r0 D [] [] sz) 0 0 (va_A [] sz) := by
  refine rk_meti h (fun x : Int32 => x) (fun x => []) (by decide) (Nat.le_of_ble_eq_true rfl) ?_
  intro p e s m args below meth c A ls Q hret hname hF hP hD hA hV hR0 hn hPL hnl hl h hS
  have hx := hF.1
  have hb := hF.2.1
  have hml := hF.2.2.1
  have hown : s.vm.findClass RX6 = some m.cls := hF.2.2.2.1
  have htc := hF.2.2.2.2
  have hP : va_P D vwCl [] s.heap := hP
  have hD : va_D A [] := hD
  have hR0 : va_P D vwCl [(a_this, .inr (5, [.int f_this_number, .int f_this_width, .long f_this_size, .int f_this_n, .int f_this_order]))] s.heap := hR0
  have hR := hR0
  have hl : lv_has ls 2 [(0, .ref a_this), (1, .int v_p1)] := hl
  unfold fX6_setting at h
  refine lv_iload_n hx hb dX6_setting_0 rfl (lv_at hl 1 rfl) ?_
  by_cases hk1 : v_p1 = 0
  · have h := rk_if hk1 h
    refine lv_tableIn (off := 27) (tgt := 28) hx hb dX6_setting_1 (by rw [hk1]; decide) (by rw [hk1]; decide) (by rw [hk1]; decide) (by decide) ?_
    refine lv_aload_n hx hb dX6_setting_28 rfl (lv_at hl 0 rfl) ?_
    refine va_get (D := D) (ci := 5) (v := .int f_this_n) (C := RX6) (T := TX6) (N := 5) hx hb htc inX6 hown hV.1 hR 0 rfl rfl 3 (by decide) (htc _ w_1_117) (fun _ h9 => h9) rfl dX6_setting_29 ?_
    exact hret f_this_n _ _ _ _ h dX6_setting_32 hP hD hS
  have h := rk_nif hk1 h
  by_cases hk2 : v_p1 = 1
  · have h := rk_if hk2 h
    refine lv_tableIn (off := 32) (tgt := 33) hx hb dX6_setting_1 (by rw [hk2]; decide) (by rw [hk2]; decide) (by rw [hk2]; decide) (by decide) ?_
    refine lv_aload_n hx hb dX6_setting_33 rfl (lv_at hl 0 rfl) ?_
    refine va_get (D := D) (ci := 5) (v := .int f_this_width) (C := RX6) (T := TX6) (N := 5) hx hb htc inX6 hown hV.1 hR 0 rfl rfl 1 (by decide) (htc _ w_1_127) (fun _ h9 => u_same (htc _ w_1_128) _ h9) rfl dX6_setting_34 ?_
    exact hret f_this_width _ _ _ _ h dX6_setting_37 hP hD hS
  have h := rk_nif hk2 h
  by_cases hk3 : v_p1 = 2
  · have h := rk_if hk3 h
    refine lv_tableIn (off := 37) (tgt := 38) hx hb dX6_setting_1 (by rw [hk3]; decide) (by rw [hk3]; decide) (by rw [hk3]; decide) (by decide) ?_
    refine lv_aload_n hx hb dX6_setting_38 rfl (lv_at hl 0 rfl) ?_
    refine va_get (D := D) (ci := 5) (v := .int f_this_order) (C := RX6) (T := TX6) (N := 5) hx hb htc inX6 hown hV.1 hR 0 rfl rfl 4 (by decide) (htc _ w_1_118) (fun _ h9 => h9) rfl dX6_setting_39 ?_
    exact hret f_this_order _ _ _ _ h dX6_setting_42 hP hD hS
  have h := rk_nif hk3 h
  refine lv_tableOut (tgt := 43) hx hb dX6_setting_1 (rk_tb3 hk1 hk2 hk3) (by decide) ?_
  refine lv_iconst (v := 0) hx hb dX6_setting_43 (by decide) ?_
  exact hret (0 : Int32) _ _ _ _ h dX6_setting_44 hP hD hS
set_option maxHeartbeats 4000000 in
set_option maxRecDepth 100000 in
theorem mtX5_setting (l : Launch) (D : va_G) (cI cJ cO : ClassId) (PL : va_W) (sz : Nat) (a_this : Nat) (f_this_number : Int32) (f_this_width : Int32) (f_this_size : Int64) (f_this_order : Int32) (v_p1 : Int32) (r0 : Int32) (h : fX5_setting f_this_width f_this_order v_p1 = some r0) : Met l yX5_setting (rk_w yX5_setting cX5_setting 2 (some .int)) rmX5_setting (va_Pc [.ref a_this, .int v_p1] (rk_B D (rk_TY cI cJ cO) [] [(a_this, .inr (4, [.int f_this_number, .int f_this_width, .long f_this_size, .int f_this_order]))] PL sz)) (rk_Qi r0 D [] [] sz) 0 0 (va_A [] sz) := by
  refine rk_meti h (fun x : Int32 => x) (fun x => []) (by decide) (Nat.le_of_ble_eq_true rfl) ?_
  intro p e s m args below meth c A ls Q hret hname hF hP hD hA hV hR0 hn hPL hnl hl h hS
  have hx := hF.1
  have hb := hF.2.1
  have hml := hF.2.2.1
  have hown : s.vm.findClass RX5 = some m.cls := hF.2.2.2.1
  have htc := hF.2.2.2.2
  have hP : va_P D vwCl [] s.heap := hP
  have hD : va_D A [] := hD
  have hR0 : va_P D vwCl [(a_this, .inr (4, [.int f_this_number, .int f_this_width, .long f_this_size, .int f_this_order]))] s.heap := hR0
  have hR := hR0
  have hl : lv_has ls 2 [(0, .ref a_this), (1, .int v_p1)] := hl
  unfold fX5_setting at h
  refine lv_iload_n hx hb dX5_setting_0 rfl (lv_at hl 1 rfl) ?_
  by_cases hk1 : v_p1 = 0
  · have h := rk_if hk1 h
    refine lv_lookup (off := 27) (tgt := 28) hx hb dX5_setting_1 (by decide) (by rw [hk1]; decide) (by decide) ?_
    refine lv_aload_n hx hb dX5_setting_28 rfl (lv_at hl 0 rfl) ?_
    refine va_get (D := D) (ci := 4) (v := .int f_this_width) (C := RX5) (T := TX5) (N := 4) hx hb htc inX5 hown hV.1 hR 0 rfl rfl 1 (by decide) (htc _ w_1_129) (fun _ h9 => u_same (htc _ w_1_130) _ h9) rfl dX5_setting_29 ?_
    exact hret f_this_width _ _ _ _ h dX5_setting_32 hP hD hS
  have h := rk_nif hk1 h
  by_cases hk2 : v_p1 = 1
  · have h := rk_if hk2 h
    refine lv_lookup (off := 32) (tgt := 33) hx hb dX5_setting_1 (by decide) (by rw [hk2]; decide) (by decide) ?_
    refine lv_aload_n hx hb dX5_setting_33 rfl (lv_at hl 0 rfl) ?_
    refine va_get (D := D) (ci := 4) (v := .int f_this_order) (C := RX5) (T := TX5) (N := 4) hx hb htc inX5 hown hV.1 hR 0 rfl rfl 3 (by decide) (htc _ w_2_75) (fun _ h9 => h9) rfl dX5_setting_34 ?_
    exact hret f_this_order _ _ _ _ h dX5_setting_37 hP hD hS
  have h := rk_nif hk2 h
  refine lv_lookup (off := 37) (tgt := 38) hx hb dX5_setting_1 (by decide) (rk_lk2 hk1 hk2) (by decide) ?_
  refine lv_iconst (v := 0) hx hb dX5_setting_38 (by decide) ?_
  exact hret (0 : Int32) _ _ _ _ h dX5_setting_39 hP hD hS
set_option maxHeartbeats 4000000 in
set_option maxRecDepth 100000 in
theorem mtX8_setting (l : Launch) (D : va_G) (cI cJ cO : ClassId) (PL : va_W) (sz : Nat) (a_this : Nat) (f_this_number : Int32) (f_this_width : Int32) (f_this_size : Int64) (f_this_pairs : Int32) (f_this_types : Int32) (v_p1 : Int32) (r0 : Int32) (h : fX8_setting f_this_pairs f_this_types v_p1 = some r0) : Met l yX8_setting (rk_w yX8_setting cX8_setting 2 (some .int)) rmX8_setting (va_Pc [.ref a_this, .int v_p1] (rk_B D (rk_TY cI cJ cO) [] [(a_this, .inr (7, [.int f_this_number, .int f_this_width, .long f_this_size, .int f_this_pairs, .int f_this_types]))] PL sz)) (rk_Qi r0 D [] [] sz) 0 0 (va_A [] sz) := by
  refine rk_meti h (fun x : Int32 => x) (fun x => []) (by decide) (Nat.le_of_ble_eq_true rfl) ?_
  intro p e s m args below meth c A ls Q hret hname hF hP hD hA hV hR0 hn hPL hnl hl h hS
  have hx := hF.1
  have hb := hF.2.1
  have hml := hF.2.2.1
  have hown : s.vm.findClass RX8 = some m.cls := hF.2.2.2.1
  have htc := hF.2.2.2.2
  have hP : va_P D vwCl [] s.heap := hP
  have hD : va_D A [] := hD
  have hR0 : va_P D vwCl [(a_this, .inr (7, [.int f_this_number, .int f_this_width, .long f_this_size, .int f_this_pairs, .int f_this_types]))] s.heap := hR0
  have hR := hR0
  have hl : lv_has ls 2 [(0, .ref a_this), (1, .int v_p1)] := hl
  unfold fX8_setting at h
  refine lv_iload_n hx hb dX8_setting_0 rfl (lv_at hl 1 rfl) ?_
  by_cases hk1 : v_p1 = 0
  · have h := rk_if hk1 h
    refine lv_lookup (off := 27) (tgt := 28) hx hb dX8_setting_1 (by decide) (by rw [hk1]; decide) (by decide) ?_
    refine lv_aload_n hx hb dX8_setting_28 rfl (lv_at hl 0 rfl) ?_
    refine va_get (D := D) (ci := 7) (v := .int f_this_pairs) (C := RX8) (T := TX8) (N := 5) hx hb htc inX8 hown hV.1 hR 0 rfl rfl 3 (by decide) (htc _ w_2_96) (fun _ h9 => h9) rfl dX8_setting_29 ?_
    exact hret f_this_pairs _ _ _ _ h dX8_setting_32 hP hD hS
  have h := rk_nif hk1 h
  by_cases hk2 : v_p1 = 1
  · have h := rk_if hk2 h
    refine lv_lookup (off := 32) (tgt := 33) hx hb dX8_setting_1 (by decide) (by rw [hk2]; decide) (by decide) ?_
    refine lv_aload_n hx hb dX8_setting_33 rfl (lv_at hl 0 rfl) ?_
    refine va_get (D := D) (ci := 7) (v := .int f_this_types) (C := RX8) (T := TX8) (N := 5) hx hb htc inX8 hown hV.1 hR 0 rfl rfl 4 (by decide) (htc _ w_2_97) (fun _ h9 => h9) rfl dX8_setting_34 ?_
    exact hret f_this_types _ _ _ _ h dX8_setting_37 hP hD hS
  have h := rk_nif hk2 h
  refine lv_lookup (off := 37) (tgt := 38) hx hb dX8_setting_1 (by decide) (rk_lk2 hk1 hk2) (by decide) ?_
  refine lv_iconst (v := 0) hx hb dX8_setting_38 (by decide) ?_
  exact hret (0 : Int32) _ _ _ _ h dX8_setting_39 hP hD hS
set_option maxHeartbeats 4000000 in
set_option maxRecDepth 100000 in
theorem mtX7_setting (l : Launch) (D : va_G) (cI cJ cO : ClassId) (PL : va_W) (sz : Nat) (a_this : Nat) (f_this_number : Int32) (f_this_width : Int32) (f_this_size : Int64) (v_p1 : Int32) (r0 : Int32) (h : fX7_setting f_this_width v_p1 = some r0) : Met l yX7_setting (rk_w yX7_setting cX7_setting 2 (some .int)) rmX7_setting (va_Pc [.ref a_this, .int v_p1] (rk_B D (rk_TY cI cJ cO) [] [(a_this, .inr (6, [.int f_this_number, .int f_this_width, .long f_this_size]))] PL sz)) (rk_Qi r0 D [] [] sz) 0 0 (va_A [] sz) := by
  refine rk_meti h (fun x : Int32 => x) (fun x => []) (by decide) (Nat.le_of_ble_eq_true rfl) ?_
  intro p e s m args below meth c A ls Q hret hname hF hP hD hA hV hR0 hn hPL hnl hl h hS
  have hx := hF.1
  have hb := hF.2.1
  have hml := hF.2.2.1
  have hown : s.vm.findClass RX7 = some m.cls := hF.2.2.2.1
  have htc := hF.2.2.2.2
  have hP : va_P D vwCl [] s.heap := hP
  have hD : va_D A [] := hD
  have hR0 : va_P D vwCl [(a_this, .inr (6, [.int f_this_number, .int f_this_width, .long f_this_size]))] s.heap := hR0
  have hR := hR0
  have hl : lv_has ls 2 [(0, .ref a_this), (1, .int v_p1)] := hl
  unfold fX7_setting at h
  refine lv_iload_n hx hb dX7_setting_0 rfl (lv_at hl 1 rfl) ?_
  refine lv_if_ne (tgt := 11) hx hb dX7_setting_1 (by decide) (fun hc1 => ?_) (fun hc1 => ?_)
  · have h := rk_if hc1 h
    refine lv_iconst (v := 0) hx hb dX7_setting_11 (by decide) ?_
    exact hret (0 : Int32) _ _ _ _ h dX7_setting_12 hP hD hS
  · have h := rk_nnif hc1 h
    refine lv_aload_n hx hb dX7_setting_4 rfl (lv_at hl 0 rfl) ?_
    refine va_get (D := D) (ci := 6) (v := .int f_this_width) (C := RX7) (T := TX7) (N := 3) hx hb htc inX7 hown hV.1 hR 0 rfl rfl 1 (by decide) (htc _ w_1_123) (fun _ h9 => u_same (htc _ w_1_124) _ h9) rfl dX7_setting_5 ?_
    refine lv_goto (tgt := 12) hx hb dX7_setting_8 (by decide) ?_
    exact hret f_this_width _ _ _ _ h dX7_setting_12 hP hD hS
set_option maxHeartbeats 4000000 in
set_option maxRecDepth 100000 in
theorem mtX4_setting (l : Launch) (D : va_G) (cI cJ cO : ClassId) (PL : va_W) (sz : Nat) (a_this : Nat) (f_this_number : Int32) (f_this_width : Int32) (f_this_size : Int64) (f_this_greatest : Int32) (v_p1 : Int32) (r0 : Int32) (h : fX4_setting f_this_width f_this_greatest v_p1 = some r0) : Met l yX4_setting (rk_w yX4_setting cX4_setting 2 (some .int)) rmX4_setting (va_Pc [.ref a_this, .int v_p1] (rk_B D (rk_TY cI cJ cO) [] [(a_this, .inr (3, [.int f_this_number, .int f_this_width, .long f_this_size, .int f_this_greatest]))] PL sz)) (rk_Qi r0 D [] [] sz) 0 0 (va_A [] sz) := by
  refine rk_meti h (fun x : Int32 => x) (fun x => []) (by decide) (Nat.le_of_ble_eq_true rfl) ?_
  intro p e s m args below meth c A ls Q hret hname hF hP hD hA hV hR0 hn hPL hnl hl h hS
  have hx := hF.1
  have hb := hF.2.1
  have hml := hF.2.2.1
  have hown : s.vm.findClass RX4 = some m.cls := hF.2.2.2.1
  have htc := hF.2.2.2.2
  have hP : va_P D vwCl [] s.heap := hP
  have hD : va_D A [] := hD
  have hR0 : va_P D vwCl [(a_this, .inr (3, [.int f_this_number, .int f_this_width, .long f_this_size, .int f_this_greatest]))] s.heap := hR0
  have hR := hR0
  have hl : lv_has ls 2 [(0, .ref a_this), (1, .int v_p1)] := hl
  unfold fX4_setting at h
  refine lv_iload_n hx hb dX4_setting_0 rfl (lv_at hl 1 rfl) ?_
  by_cases hk1 : v_p1 = 0
  · have h := rk_if hk1 h
    refine lv_lookup (off := 27) (tgt := 28) hx hb dX4_setting_1 (by decide) (by rw [hk1]; decide) (by decide) ?_
    refine lv_aload_n hx hb dX4_setting_28 rfl (lv_at hl 0 rfl) ?_
    refine va_get (D := D) (ci := 3) (v := .int f_this_width) (C := RX4) (T := TX4) (N := 4) hx hb htc inX4 hown hV.1 hR 0 rfl rfl 1 (by decide) (htc _ w_1_125) (fun _ h9 => u_same (htc _ w_1_126) _ h9) rfl dX4_setting_29 ?_
    exact hret f_this_width _ _ _ _ h dX4_setting_32 hP hD hS
  have h := rk_nif hk1 h
  by_cases hk2 : v_p1 = 1
  · have h := rk_if hk2 h
    refine lv_lookup (off := 32) (tgt := 33) hx hb dX4_setting_1 (by decide) (by rw [hk2]; decide) (by decide) ?_
    refine lv_aload_n hx hb dX4_setting_33 rfl (lv_at hl 0 rfl) ?_
    refine va_get (D := D) (ci := 3) (v := .int f_this_greatest) (C := RX4) (T := TX4) (N := 4) hx hb htc inX4 hown hV.1 hR 0 rfl rfl 3 (by decide) (htc _ w_2_136) (fun _ h9 => h9) rfl dX4_setting_34 ?_
    exact hret f_this_greatest _ _ _ _ h dX4_setting_37 hP hD hS
  have h := rk_nif hk2 h
  refine lv_lookup (off := 37) (tgt := 38) hx hb dX4_setting_1 (by decide) (rk_lk2 hk1 hk2) (by decide) ?_
  refine lv_iconst (v := 0) hx hb dX4_setting_38 (by decide) ?_
  exact hret (0 : Int32) _ _ _ _ h dX4_setting_39 hP hD hS
set_option maxHeartbeats 4000000 in
set_option maxRecDepth 100000 in
theorem mtX1_setting (l : Launch) (D : va_G) (cI cJ cO : ClassId) (PL : va_W) (sz : Nat) (a_this : Nat) (f_this_number : Int32) (f_this_width : Int32) (f_this_size : Int64) (f_this_zeros : Int32) (f_this_ones : Int32) (f_this_twos : Int32) (f_this_threes : Int32) (v_p1 : Int32) (r0 : Int32) (h : fX1_setting f_this_zeros f_this_ones f_this_twos f_this_threes v_p1 = some r0) : Met l yX1_setting (rk_w yX1_setting cX1_setting 2 (some .int)) rmX1_setting (va_Pc [.ref a_this, .int v_p1] (rk_B D (rk_TY cI cJ cO) [] [(a_this, .inr (1, [.int f_this_number, .int f_this_width, .long f_this_size, .int f_this_zeros, .int f_this_ones, .int f_this_twos, .int f_this_threes]))] PL sz)) (rk_Qi r0 D [] [] sz) 0 0 (va_A [] sz) := by
  refine rk_meti h (fun x : Int32 => x) (fun x => []) (by decide) (Nat.le_of_ble_eq_true rfl) ?_
  intro p e s m args below meth c A ls Q hret hname hF hP hD hA hV hR0 hn hPL hnl hl h hS
  have hx := hF.1
  have hb := hF.2.1
  have hml := hF.2.2.1
  have hown : s.vm.findClass RX1 = some m.cls := hF.2.2.2.1
  have htc := hF.2.2.2.2
  have hP : va_P D vwCl [] s.heap := hP
  have hD : va_D A [] := hD
  have hR0 : va_P D vwCl [(a_this, .inr (1, [.int f_this_number, .int f_this_width, .long f_this_size, .int f_this_zeros, .int f_this_ones, .int f_this_twos, .int f_this_threes]))] s.heap := hR0
  have hR := hR0
  have hl : lv_has ls 2 [(0, .ref a_this), (1, .int v_p1)] := hl
  unfold fX1_setting at h
  refine lv_iload_n hx hb dX1_setting_0 rfl (lv_at hl 1 rfl) ?_
  by_cases hk1 : v_p1 = 0
  · have h := rk_if hk1 h
    refine lv_tableIn (off := 31) (tgt := 32) hx hb dX1_setting_1 (by rw [hk1]; decide) (by rw [hk1]; decide) (by rw [hk1]; decide) (by decide) ?_
    refine lv_aload_n hx hb dX1_setting_32 rfl (lv_at hl 0 rfl) ?_
    refine va_get (D := D) (ci := 1) (v := .int f_this_zeros) (C := RX1) (T := TX1) (N := 7) hx hb htc inX1 hown hV.1 hR 0 rfl rfl 3 (by decide) (htc _ w_2_156) (fun _ h9 => h9) rfl dX1_setting_33 ?_
    exact hret f_this_zeros _ _ _ _ h dX1_setting_36 hP hD hS
  have h := rk_nif hk1 h
  by_cases hk2 : v_p1 = 1
  · have h := rk_if hk2 h
    refine lv_tableIn (off := 36) (tgt := 37) hx hb dX1_setting_1 (by rw [hk2]; decide) (by rw [hk2]; decide) (by rw [hk2]; decide) (by decide) ?_
    refine lv_aload_n hx hb dX1_setting_37 rfl (lv_at hl 0 rfl) ?_
    refine va_get (D := D) (ci := 1) (v := .int f_this_ones) (C := RX1) (T := TX1) (N := 7) hx hb htc inX1 hown hV.1 hR 0 rfl rfl 4 (by decide) (htc _ w_2_157) (fun _ h9 => h9) rfl dX1_setting_38 ?_
    exact hret f_this_ones _ _ _ _ h dX1_setting_41 hP hD hS
  have h := rk_nif hk2 h
  by_cases hk3 : v_p1 = 2
  · have h := rk_if hk3 h
    refine lv_tableIn (off := 41) (tgt := 42) hx hb dX1_setting_1 (by rw [hk3]; decide) (by rw [hk3]; decide) (by rw [hk3]; decide) (by decide) ?_
    refine lv_aload_n hx hb dX1_setting_42 rfl (lv_at hl 0 rfl) ?_
    refine va_get (D := D) (ci := 1) (v := .int f_this_twos) (C := RX1) (T := TX1) (N := 7) hx hb htc inX1 hown hV.1 hR 0 rfl rfl 5 (by decide) (htc _ w_2_158) (fun _ h9 => h9) rfl dX1_setting_43 ?_
    exact hret f_this_twos _ _ _ _ h dX1_setting_46 hP hD hS
  have h := rk_nif hk3 h
  by_cases hk4 : v_p1 = 3
  · have h := rk_if hk4 h
    refine lv_tableIn (off := 46) (tgt := 47) hx hb dX1_setting_1 (by rw [hk4]; decide) (by rw [hk4]; decide) (by rw [hk4]; decide) (by decide) ?_
    refine lv_aload_n hx hb dX1_setting_47 rfl (lv_at hl 0 rfl) ?_
    refine va_get (D := D) (ci := 1) (v := .int f_this_threes) (C := RX1) (T := TX1) (N := 7) hx hb htc inX1 hown hV.1 hR 0 rfl rfl 6 (by decide) (htc _ w_2_159) (fun _ h9 => h9) rfl dX1_setting_48 ?_
    exact hret f_this_threes _ _ _ _ h dX1_setting_51 hP hD hS
  have h := rk_nif hk4 h
  refine lv_tableOut (tgt := 52) hx hb dX1_setting_1 (rk_tb4 hk1 hk2 hk3 hk4) (by decide) ?_
  refine lv_iconst (v := 0) hx hb dX1_setting_52 (by decide) ?_
  exact hret (0 : Int32) _ _ _ _ h dX1_setting_53 hP hD hS
set_option maxHeartbeats 4000000 in
set_option maxRecDepth 100000 in
theorem vr_setting {p : Program} {l : Launch} {e : Env} {R : Room} {s : State} {m : MethodId} {args : Array Value} {below : List Frame} {meth : Method} {c : Code} {H : Heap} {locs : List Loc} {cells slots : Nat} {cc : ByteArray} {nL : Nat} {own : String} {index : Nat} {g : JFrame} {As rest : List Value} (hF : CallFix p m c cc nL s args rk_c own) (htc : ∀ w ∈ rk_c, w.before args s = true) {D : va_G} {cI cJ cO : ClassId} (hV : rk_V D (rk_TY cI cJ cO) s) (hlk : Cond.methodLink own index ⟨"EnumerativeCoder$Family", "setting", "(I)I"⟩ ∈ rk_c) (hu : () = ()) (PL : va_W) (a_this : Nat) (F_this : Fm) (v_p1 : Int32) (r0 : Int32) (h : v_setting F_this v_p1 = some r0) (hcell : va_at D vwCl (a_this, rk_fam F_this) H) (hp : PreS s H (va_Pc (.ref a_this :: As) (rk_B D (rk_TY cI cJ cO) [] [(a_this, rk_fam F_this)] PL H.size)) (.ref a_this :: As)) (hg : g.method = m) (hn : As.length = 1) (hsize : g.locals.size = nL) (hstack : g.stack = As.reverse ++ .ref a_this :: rest) (hW : 2 * g.monitorRoom + (rest.map fun v => v.category).sum ≤ 8) (hdg : decode cc g.pc = .ok (.invokevirtual index, 3)) (hf : cells + 0 ≤ R.cells ∧ slots + 0 ≤ R.slots) (hfr : 1 ≤ R.frames) (hlo : 21 ≤ R.locals) (hAs : As = [.int v_p1]) : va_Run p l e R s m args below meth c H locs cells slots 0 0 g rest (rk_Qi r0 D [] [] H.size (Value.ref a_this :: As).toArray) (va_A [] H.size) := by
  subst hAs
  unfold v_setting at h
  by_cases k0 : F_this.1 = 0
  · have h := rk_if k0 h
    have hfam := rk_fam_0 k0
    rw [hfam] at hp hcell
    exact va_runU (C := RX6) (owner := "EnumerativeCoder$Family") hF (mtX6_setting l D cI cJ cO PL H.size a_this F_this.2.1 F_this.2.2.1 F_this.2.2.2.1 F_this.2.2.2.2.1 F_this.2.2.2.2.2.1 v_p1 r0 h) (va_cwA 1 htc (rk_gU hlk w_2_182 w_2_190 w_2_191 w_1_6 w_2_192) rfl rfl rfl (hV.2.1 _ nw_2_181) (by decide +kernel) ⟨Nat.le_trans (Nat.le_of_ble_eq_true rfl) hfr, Nat.le_trans (Nat.le_of_ble_eq_true rfl) hlo⟩) (rk_preV (va_recv hV.1 (rk_oneP hcell) (ci := 5) (q0 := 0) rfl rfl) hp) hg hn hsize hstack hW hdg hf
  have h := rk_nif k0 h
  by_cases k1 : F_this.1 = 1
  · have h := rk_if k1 h
    have hfam := rk_fam_1 k1
    rw [hfam] at hp hcell
    exact va_runU (C := RX5) (owner := "EnumerativeCoder$Family") hF (mtX5_setting l D cI cJ cO PL H.size a_this F_this.2.1 F_this.2.2.1 F_this.2.2.2.1 F_this.2.2.2.2.1 v_p1 r0 h) (va_cwA 1 htc (rk_gU hlk w_2_182 w_2_187 w_2_188 w_1_9 w_2_189) rfl rfl rfl (hV.2.1 _ nw_2_181) (by decide +kernel) ⟨Nat.le_trans (Nat.le_of_ble_eq_true rfl) hfr, Nat.le_trans (Nat.le_of_ble_eq_true rfl) hlo⟩) (rk_preV (va_recv hV.1 (rk_oneP hcell) (ci := 4) (q0 := 0) rfl rfl) hp) hg hn hsize hstack hW hdg hf
  have h := rk_nif k1 h
  by_cases k2 : F_this.1 = 2
  · have h := rk_if k2 h
    have hfam := rk_fam_2 k2
    rw [hfam] at hp hcell
    exact va_runU (C := RX8) (owner := "EnumerativeCoder$Family") hF (mtX8_setting l D cI cJ cO PL H.size a_this F_this.2.1 F_this.2.2.1 F_this.2.2.2.1 F_this.2.2.2.2.1 F_this.2.2.2.2.2.1 v_p1 r0 h) (va_cwA 1 htc (rk_gU hlk w_2_182 w_2_196 w_2_197 w_1_11 w_2_198) rfl rfl rfl (hV.2.1 _ nw_2_181) (by decide +kernel) ⟨Nat.le_trans (Nat.le_of_ble_eq_true rfl) hfr, Nat.le_trans (Nat.le_of_ble_eq_true rfl) hlo⟩) (rk_preV (va_recv hV.1 (rk_oneP hcell) (ci := 7) (q0 := 0) rfl rfl) hp) hg hn hsize hstack hW hdg hf
  have h := rk_nif k2 h
  by_cases k3 : F_this.1 = 3
  · have h := rk_if k3 h
    have hfam := rk_fam_3 k3
    rw [hfam] at hp hcell
    exact va_runU (C := RX7) (owner := "EnumerativeCoder$Family") hF (mtX7_setting l D cI cJ cO PL H.size a_this F_this.2.1 F_this.2.2.1 F_this.2.2.2.1 v_p1 r0 h) (va_cwA 1 htc (rk_gU hlk w_2_182 w_2_193 w_2_194 w_1_10 w_2_195) rfl rfl rfl (hV.2.1 _ nw_2_181) (by decide +kernel) ⟨Nat.le_trans (Nat.le_of_ble_eq_true rfl) hfr, Nat.le_trans (Nat.le_of_ble_eq_true rfl) hlo⟩) (rk_preV (va_recv hV.1 (rk_oneP hcell) (ci := 6) (q0 := 0) rfl rfl) hp) hg hn hsize hstack hW hdg hf
  have h := rk_nif k3 h
  by_cases k4 : F_this.1 = 4
  · have h := rk_if k4 h
    have hfam := rk_fam_4 k4
    rw [hfam] at hp hcell
    exact va_runU (C := RX4) (owner := "EnumerativeCoder$Family") hF (mtX4_setting l D cI cJ cO PL H.size a_this F_this.2.1 F_this.2.2.1 F_this.2.2.2.1 F_this.2.2.2.2.1 v_p1 r0 h) (va_cwA 1 htc (rk_gU hlk w_2_182 w_2_184 w_2_185 w_1_12 w_2_186) rfl rfl rfl (hV.2.1 _ nw_2_181) (by decide +kernel) ⟨Nat.le_trans (Nat.le_of_ble_eq_true rfl) hfr, Nat.le_trans (Nat.le_of_ble_eq_true rfl) hlo⟩) (rk_preV (va_recv hV.1 (rk_oneP hcell) (ci := 3) (q0 := 0) rfl rfl) hp) hg hn hsize hstack hW hdg hf
  have h := rk_nif k4 h
  have hfam := rk_fam_5 k0 k1 k2 k3 k4
  rw [hfam] at hp hcell
  exact va_runU (C := RX1) (owner := "EnumerativeCoder$Family") hF (mtX1_setting l D cI cJ cO PL H.size a_this F_this.2.1 F_this.2.2.1 F_this.2.2.2.1 F_this.2.2.2.2.1 F_this.2.2.2.2.2.1 F_this.2.2.2.2.2.2.1 F_this.2.2.2.2.2.2.2 v_p1 r0 h) (va_cwA 1 htc (rk_gU hlk w_2_182 w_2_183 w_1_192 w_1_8 w_1_194) rfl rfl rfl (hV.2.1 _ nw_2_181) (by decide +kernel) ⟨Nat.le_trans (Nat.le_of_ble_eq_true rfl) hfr, Nat.le_trans (Nat.le_of_ble_eq_true rfl) hlo⟩) (rk_preV (va_recv hV.1 (rk_oneP hcell) (ci := 1) (q0 := 0) rfl rfl) hp) hg hn hsize hstack hW hdg hf
set_option maxHeartbeats 4000000 in
set_option maxRecDepth 100000 in
theorem mtX0_compareEntries (l : Launch) (D : va_G) (cI cJ cO : ClassId) (LP : List Nat) (FP : Nat → Fm) (sz : Nat) (a_this : Nat) (a_this_families : Nat) (a_this_places : Nat) (f_this_used : Int32) (f_this_product : Int64) (c_this_families : Nat → Option Nat) (c_this_places : Nat → Int64) (v_p1 : Int32) (v_p2 : Int32) (r0 : Int32) (h : fX0_compareEntries LP FP f_this_used c_this_families c_this_places v_p1 v_p2 = some r0) : Met l yX0_compareEntries (rk_w yX0_compareEntries cX0_compareEntries 7 (some .int)) rmX0_compareEntries (va_Pc [.ref a_this, .int v_p1, .int v_p2] (rk_B D (rk_TY cI cJ cO) [] [(a_this, .inr (0, [.ref a_this_families, .ref a_this_places, .int f_this_used, .long f_this_product])), (a_this_families, .inl (cO, 10, .inr (.inr (.inr (.inr c_this_families))))), (a_this_places, .inl (cJ, 10, .inr (.inl c_this_places)))] (rk_pl LP FP) sz)) (rk_Qi r0 D [] [] sz) 0 0 (va_A [] sz) := by
  refine rk_meti h (fun x : Int32 => x) (fun x => []) (by decide) (Nat.le_of_ble_eq_true rfl) ?_
  intro p e s m args below meth c A ls Q hret hname hF hP hD hA hV hR0 hn hPL hnl hl h hS
  have hx := hF.1
  have hb := hF.2.1
  have hml := hF.2.2.1
  have hown : s.vm.findClass RX0 = some m.cls := hF.2.2.2.1
  have htc := hF.2.2.2.2
  have hP : va_P D vwCl [] s.heap := hP
  have hD : va_D A [] := hD
  have hR0 : va_P D vwCl [(a_this, .inr (0, [.ref a_this_families, .ref a_this_places, .int f_this_used, .long f_this_product])), (a_this_families, .inl (cO, 10, .inr (.inr (.inr (.inr c_this_families))))), (a_this_places, .inl (cJ, 10, .inr (.inl c_this_places)))] s.heap := hR0
  have hR := hR0
  have hl : lv_has ls 7 [(0, .ref a_this), (1, .int v_p1), (2, .int v_p2)] := hl
  unfold fX0_compareEntries at h
  refine lv_aload_n hx hb dX0_compareEntries_0 rfl (lv_at hl 0 rfl) ?_
  refine lv_iload_n hx hb dX0_compareEntries_1 rfl (lv_at hl 1 rfl) ?_
  obtain ⟨r_2, hc_2, h⟩ := rk_bd h
  refine rk_q (wr := []) (va_runV (C := RX0) (As := [.int v_p1]) (rest := []) hF (mtX0_familyAt l D cI cJ cO (rk_pl LP FP) _ a_this a_this_families a_this_places f_this_used f_this_product c_this_families v_p1 r_2 hc_2) (cwV 1 htc (rk_gV w_3_190 w_3_155 ws_24 w_1_4 w_3_156) rfl rfl rfl (by decide +kernel) ⟨(Nat.le_of_ble_eq_true rfl), (Nat.le_of_ble_eq_true rfl)⟩) (rk_preV (va_recv hV.1 hR (ci := 0) (q0 := 0) rfl rfl) (rk_preS hP hD hS hR hn hPL hnl hV [] [(false, 0), (false, 1)] rfl (by decide) rfl (by decide))) rfl rfl hl.1 rfl (lv_room (Nat.le_of_ble_eq_true rfl)) dX0_compareEntries_2 ⟨(Nat.le_of_ble_eq_true rfl), (Nat.le_of_ble_eq_true rfl)⟩) hP hD hS hA hR0 hn [] [] rfl rfl (by decide) (by decide) (fun H locs hP hD hS hR => ?_)
  have hP : va_P D vwCl [] H := hP
  have hD : va_D A [] := hD
  rcases r_2 with _ | a_2
  · have h := rk_en h
    refine lv_astore_nN (lv' := [(3, .null), (0, .ref a_this), (1, .int v_p1), (2, .int v_p2)]) hx hb dX0_compareEntries_5 rfl hl (by decide) rfl (fun ls hl => ?_)
    refine lv_aload_n hx hb dX0_compareEntries_6 rfl (lv_at hl 1 rfl) ?_
    refine lv_iload_n hx hb dX0_compareEntries_7 rfl (lv_at hl 3 rfl) ?_
    obtain ⟨r_8, hc_8, h⟩ := rk_bd h
    refine rk_q (wr := []) (va_runV (C := RX0) (As := [.int v_p2]) (rest := []) hF (mtX0_familyAt l D cI cJ cO (rk_pl LP FP) _ a_this a_this_families a_this_places f_this_used f_this_product c_this_families v_p2 r_8 hc_8) (cwV 1 htc (rk_gV w_3_190 w_3_155 ws_24 w_1_4 w_3_156) rfl rfl rfl (by decide +kernel) ⟨(Nat.le_of_ble_eq_true rfl), (Nat.le_of_ble_eq_true rfl)⟩) (rk_preV (va_recv hV.1 hR (ci := 0) (q0 := 0) rfl rfl) (rk_preS hP hD hS hR hn hPL hnl hV [] [(false, 0), (false, 1)] rfl (by decide) rfl (by decide))) rfl rfl hl.1 rfl (lv_room (Nat.le_of_ble_eq_true rfl)) dX0_compareEntries_8 ⟨(Nat.le_of_ble_eq_true rfl), (Nat.le_of_ble_eq_true rfl)⟩) hP hD hS hA hR0 hn [] [] rfl rfl (by decide) (by decide) (fun H locs hP hD hS hR => ?_)
    have hP : va_P D vwCl [] H := hP
    have hD : va_D A [] := hD
    rcases r_8 with _ | a_8
    · have h := rk_en h
      refine lv_astoreN (lv' := [(4, .null), (3, .null), (0, .ref a_this), (1, .int v_p1), (2, .int v_p2)]) hx hb dX0_compareEntries_11 hl (by decide) rfl (fun ls hl => ?_)
      refine lv_aload_nN hx hb dX0_compareEntries_13 rfl (lv_at hl 1 rfl) ?_
      refine lv_ifnullN (tgt := 22) hx hb dX0_compareEntries_14 (by decide) ?_
      refine lv_iconst (v := 0) hx hb dX0_compareEntries_22 (by decide) ?_
      exact hret (0 : Int32) _ _ _ _ h dX0_compareEntries_23 hP hD hS
    have h := rk_es h
    obtain ⟨hm_8, h⟩ := rk_gp h
    obtain ⟨hR0, hn⟩ := rk_imp hm_8 hPL hnl hR0 hn
    have hR := rk_keep hR0 hn hS
    refine lv_astore (lv' := [(4, .ref a_8), (3, .null), (0, .ref a_this), (1, .int v_p1), (2, .int v_p2)]) hx hb dX0_compareEntries_11 hl (by decide) rfl (fun ls hl => ?_)
    refine lv_aload_nN hx hb dX0_compareEntries_13 rfl (lv_at hl 1 rfl) ?_
    refine lv_ifnullN (tgt := 22) hx hb dX0_compareEntries_14 (by decide) ?_
    refine lv_iconst (v := 0) hx hb dX0_compareEntries_22 (by decide) ?_
    exact hret (0 : Int32) _ _ _ _ h dX0_compareEntries_23 hP hD hS
  have h := rk_es h
  obtain ⟨hm_2, h⟩ := rk_gp h
  obtain ⟨hR0, hn⟩ := rk_imp hm_2 hPL hnl hR0 hn
  have hR := rk_keep hR0 hn hS
  refine lv_astore_n (lv' := [(3, .ref a_2), (0, .ref a_this), (1, .int v_p1), (2, .int v_p2)]) hx hb dX0_compareEntries_5 rfl hl (by decide) rfl (fun ls hl => ?_)
  refine lv_aload_n hx hb dX0_compareEntries_6 rfl (lv_at hl 1 rfl) ?_
  refine lv_iload_n hx hb dX0_compareEntries_7 rfl (lv_at hl 3 rfl) ?_
  obtain ⟨r_8, hc_8, h⟩ := rk_bd h
  refine rk_q (wr := []) (va_runV (C := RX0) (As := [.int v_p2]) (rest := []) hF (mtX0_familyAt l D cI cJ cO (rk_pl LP FP) _ a_this a_this_families a_this_places f_this_used f_this_product c_this_families v_p2 r_8 hc_8) (cwV 1 htc (rk_gV w_3_190 w_3_155 ws_24 w_1_4 w_3_156) rfl rfl rfl (by decide +kernel) ⟨(Nat.le_of_ble_eq_true rfl), (Nat.le_of_ble_eq_true rfl)⟩) (rk_preV (va_recv hV.1 hR (ci := 0) (q0 := 1) rfl rfl) (rk_preS hP hD hS hR hn hPL hnl hV [] [(false, 1), (false, 2)] rfl (by decide) rfl (by decide))) rfl rfl hl.1 rfl (lv_room (Nat.le_of_ble_eq_true rfl)) dX0_compareEntries_8 ⟨(Nat.le_of_ble_eq_true rfl), (Nat.le_of_ble_eq_true rfl)⟩) hP hD hS hA hR0 hn [] [] rfl rfl (by decide) (by decide) (fun H locs hP hD hS hR => ?_)
  have hP : va_P D vwCl [] H := hP
  have hD : va_D A [] := hD
  rcases r_8 with _ | a_8
  · have h := rk_en h
    refine lv_astoreN (lv' := [(4, .null), (3, .ref a_2), (0, .ref a_this), (1, .int v_p1), (2, .int v_p2)]) hx hb dX0_compareEntries_11 hl (by decide) rfl (fun ls hl => ?_)
    refine lv_aload_n hx hb dX0_compareEntries_13 rfl (lv_at hl 1 rfl) ?_
    refine lv_ifnull hx hb dX0_compareEntries_14 ?_
    refine lv_aloadN hx hb dX0_compareEntries_17 (lv_at hl 0 rfl) ?_
    refine lv_ifnonnullN hx hb dX0_compareEntries_19 ?_
    refine lv_iconst (v := 0) hx hb dX0_compareEntries_22 (by decide) ?_
    exact hret (0 : Int32) _ _ _ _ h dX0_compareEntries_23 hP hD hS
  have h := rk_es h
  obtain ⟨hm_8, h⟩ := rk_gp h
  obtain ⟨hR0, hn⟩ := rk_imp hm_8 hPL hnl hR0 hn
  have hR := rk_keep hR0 hn hS
  refine lv_astore (lv' := [(4, .ref a_8), (3, .ref a_2), (0, .ref a_this), (1, .int v_p1), (2, .int v_p2)]) hx hb dX0_compareEntries_11 hl (by decide) rfl (fun ls hl => ?_)
  refine lv_aload_n hx hb dX0_compareEntries_13 rfl (lv_at hl 1 rfl) ?_
  refine lv_ifnull hx hb dX0_compareEntries_14 ?_
  refine lv_aload hx hb dX0_compareEntries_17 (lv_at hl 0 rfl) ?_
  refine lv_ifnonnull (tgt := 24) hx hb dX0_compareEntries_19 (by decide) ?_
  refine lv_aload_n hx hb dX0_compareEntries_24 rfl (lv_at hl 1 rfl) ?_
  refine rk_fget_number hx hb htc hown hV.1 hR 1 rfl (htc _ w_1_121) dX0_compareEntries_25 ?_
  refine lv_aload hx hb dX0_compareEntries_28 (lv_at hl 0 rfl) ?_
  refine rk_fget_number hx hb htc hown hV.1 hR 0 rfl (htc _ w_1_121) dX0_compareEntries_30 ?_
  obtain ⟨r_33, hc_33, h⟩ := rk_bd h
  refine rk_i (wr := []) (va_runS (As := [.int (FP a_2).2.1, .int (FP a_8).2.1]) (rest := []) hF (mtJ6_compare_7cf53 l D cI cJ cO (rk_pl LP FP) _ ((FP a_2).2.1) ((FP a_8).2.1) r_33 hc_33) (va_cwS 2 htc (rk_gVS w_3_213 w_3_214 w_1_13 w_3_215) rfl rfl rfl (by decide +kernel) ⟨(Nat.le_of_ble_eq_true rfl), (Nat.le_of_ble_eq_true rfl)⟩) (rk_preS hP hD hS hR hn hPL hnl hV [] [] rfl (by decide) rfl (by decide)) rfl rfl hl.1 rfl (lv_room (Nat.le_of_ble_eq_true rfl)) dX0_compareEntries_33 ⟨(Nat.le_of_ble_eq_true rfl), (Nat.le_of_ble_eq_true rfl)⟩) hP hD hS hA hR0 hn [] [] rfl rfl (by decide) (by decide) (fun H locs hP hD hS hR => ?_)
  have hP : va_P D vwCl [] H := hP
  have hD : va_D A [] := hD
  refine lv_istore (lv' := [(5, .int r_33), (4, .ref a_8), (3, .ref a_2), (0, .ref a_this), (1, .int v_p1), (2, .int v_p2)]) hx hb dX0_compareEntries_36 hl (by decide) rfl (fun ls hl => ?_)
  refine lv_iconst (v := 0) hx hb dX0_compareEntries_38 (by decide) ?_
  refine lv_istore (lv' := [(6, .int (0 : Int32)), (5, .int r_33), (4, .ref a_8), (3, .ref a_2), (0, .ref a_this), (1, .int v_p1), (2, .int v_p2)]) hx hb dX0_compareEntries_39 hl (by decide) rfl (fun ls hl => ?_)
  have L41 : ∀ (n41 : Nat) (b41_l5 : Int32) (b41_l6 : Int32), rk_it2 (fX0_compareEntries_L41 c_this_places v_p1 v_p2 FP a_2 a_8) n41 b41_l5 b41_l6 = some r0 → ∀ (H : Heap) (locs : List Loc), va_P D vwCl [] H → va_D A [] → va_S A s.heap H locs → ∀ (ls : Array Slot), lv_has ls 7 [(0, .ref a_this), (1, .int v_p1), (2, .int v_p2), (3, .ref a_2), (4, .ref a_8), (5, .int b41_l5), (6, .int b41_l6)] → W p l e rmX0_compareEntries s m args below meth c H locs 0 0 Q (F0 m 41 ls []) := by
    intro n41
    induction n41 with
    | zero => intro b41_l5 b41_l6 h; exact rk_no h
    | succ n41 ih41 =>
      intro b41_l5 b41_l6 h H locs hP hD hS ls hl
      have h : fX0_compareEntries_L41 c_this_places v_p1 v_p2 FP a_2 a_8 (rk_it2 (fX0_compareEntries_L41 c_this_places v_p1 v_p2 FP a_2 a_8) n41) b41_l5 b41_l6 = some r0 := h
      unfold fX0_compareEntries_L41 at h
      have hR := rk_keep hR0 hn hS
      refine lv_iload hx hb dX0_compareEntries_41 (lv_at hl 6 rfl) ?_
      refine lv_iconst (v := 4) hx hb dX0_compareEntries_43 (by decide) ?_
      have B76 : fX0_compareEntries_B76 c_this_places v_p1 v_p2 b41_l5 = some r0 → ∀ (H : Heap) (locs : List Loc), va_P D vwCl [] H → va_D A [] → va_S A s.heap H locs → ∀ (ls : Array Slot), lv_has ls 7 [(0, .ref a_this), (1, .int v_p1), (2, .int v_p2), (5, .int b41_l5)] → W p l e rmX0_compareEntries s m args below meth c H locs 0 0 Q (F0 m 76 ls []) := by
        intro  h H locs hP hD hS ls hl
        unfold fX0_compareEntries_B76 at h
        have hR := rk_keep hR0 hn hS
        refine lv_iload hx hb dX0_compareEntries_76 (lv_at hl 3 rfl) ?_
        refine lv_if_eq (tgt := 86) hx hb dX0_compareEntries_78 (by decide) (fun hc1 => ?_) (fun hc1 => ?_)
        · have h := rk_if hc1 h
          refine lv_aload_n hx hb dX0_compareEntries_86 rfl (lv_at hl 0 rfl) ?_
          refine lv_iload_n hx hb dX0_compareEntries_87 rfl (lv_at hl 1 rfl) ?_
          obtain ⟨r_88, hc_88, h⟩ := rk_bd h
          refine rk_l (wr := []) (va_runV (C := RX0) (As := [.int v_p1]) (rest := []) hF (mtX0_placeAt l D cI cJ cO (rk_pl LP FP) _ a_this a_this_families a_this_places f_this_used f_this_product c_this_places v_p1 r_88 hc_88) (cwV 1 htc (rk_gV w_3_191 w_3_159 ws_25 w_1_4 w_3_160) rfl rfl rfl (by decide +kernel) ⟨(Nat.le_of_ble_eq_true rfl), (Nat.le_of_ble_eq_true rfl)⟩) (rk_preV (va_recv hV.1 hR (ci := 0) (q0 := 2) rfl rfl) (rk_preS hP hD hS hR hn hPL hnl hV [] [(false, 2), (false, 4)] rfl (by decide) rfl (by decide))) rfl rfl hl.1 rfl (lv_room (Nat.le_of_ble_eq_true rfl)) dX0_compareEntries_88 ⟨(Nat.le_of_ble_eq_true rfl), (Nat.le_of_ble_eq_true rfl)⟩) hP hD hS hA hR0 hn [] [] rfl rfl (by decide) (by decide) (fun H locs hP hD hS hR => ?_)
          have hP : va_P D vwCl [] H := hP
          have hD : va_D A [] := hD
          refine lv_aload_n hx hb dX0_compareEntries_91 rfl (lv_at hl 0 rfl) ?_
          refine lv_iload_n hx hb dX0_compareEntries_92 rfl (lv_at hl 2 rfl) ?_
          obtain ⟨r_93, hc_93, h⟩ := rk_bd h
          refine rk_l (wr := []) (va_runV (C := RX0) (As := [.int v_p2]) (rest := [.long r_88]) hF (mtX0_placeAt l D cI cJ cO (rk_pl LP FP) _ a_this a_this_families a_this_places f_this_used f_this_product c_this_places v_p2 r_93 hc_93) (cwV 1 htc (rk_gV w_3_191 w_3_159 ws_25 w_1_4 w_3_160) rfl rfl rfl (by decide +kernel) ⟨(Nat.le_of_ble_eq_true rfl), (Nat.le_of_ble_eq_true rfl)⟩) (rk_preV (va_recv hV.1 hR (ci := 0) (q0 := 2) rfl rfl) (rk_preS hP hD hS hR hn hPL hnl hV [] [(false, 2), (false, 4)] rfl (by decide) rfl (by decide))) rfl rfl hl.1 rfl (lv_room (Nat.le_of_ble_eq_true rfl)) dX0_compareEntries_93 ⟨(Nat.le_of_ble_eq_true rfl), (Nat.le_of_ble_eq_true rfl)⟩) hP hD hS hA hR0 hn [] [] rfl rfl (by decide) (by decide) (fun H locs hP hD hS hR => ?_)
          have hP : va_P D vwCl [] H := hP
          have hD : va_D A [] := hD
          obtain ⟨r_96, hc_96, h⟩ := rk_bd h
          refine rk_i (wr := []) (va_runS (As := [.long r_88, .long r_93]) (rest := []) hF (mtJ13_compare_74951 l D cI cJ cO (rk_pl LP FP) _ r_88 r_93 r_96 hc_96) (va_cwS 2 htc (rk_gVS w_3_217 w_3_218 w_1_14 w_3_219) rfl rfl rfl (by decide +kernel) ⟨(Nat.le_of_ble_eq_true rfl), (Nat.le_of_ble_eq_true rfl)⟩) (rk_preS hP hD hS hR hn hPL hnl hV [] [] rfl (by decide) rfl (by decide)) rfl rfl hl.1 rfl (lv_room (Nat.le_of_ble_eq_true rfl)) dX0_compareEntries_96 ⟨(Nat.le_of_ble_eq_true rfl), (Nat.le_of_ble_eq_true rfl)⟩) hP hD hS hA hR0 hn [] [] rfl rfl (by decide) (by decide) (fun H locs hP hD hS hR => ?_)
          have hP : va_P D vwCl [] H := hP
          have hD : va_D A [] := hD
          exact hret r_96 _ _ _ _ h dX0_compareEntries_99 hP hD hS
        · have h := rk_nif hc1 h
          refine lv_iload hx hb dX0_compareEntries_81 (lv_at hl 3 rfl) ?_
          refine lv_goto (tgt := 99) hx hb dX0_compareEntries_83 (by decide) ?_
          exact hret b41_l5 _ _ _ _ h dX0_compareEntries_99 hP hD hS
      refine lv_icmp_ge (tgt := 76) hx hb dX0_compareEntries_44 (by decide) (fun hc2 => ?_) (fun hc2 => ?_)
      · have h := rk_if hc2 h
        exact B76  h _ _ hP hD hS _ (lv_sub hl [0, 1, 2, 5] rfl)
      · have h := rk_nif hc2 h
        refine lv_iload hx hb dX0_compareEntries_47 (lv_at hl 5 rfl) ?_
        refine lv_if_ne (tgt := 76) hx hb dX0_compareEntries_49 (by decide) (fun hc3 => ?_) (fun hc3 => ?_)
        · have h := rk_if hc3 h
          exact B76  h _ _ hP hD hS _ (lv_sub hl [0, 1, 2, 5] rfl)
        · have h := rk_nnif hc3 h
          refine lv_aload_n hx hb dX0_compareEntries_52 rfl (lv_at hl 3 rfl) ?_
          refine lv_iload hx hb dX0_compareEntries_53 (lv_at hl 6 rfl) ?_
          obtain ⟨r_55, hc_55, h⟩ := rk_bd h
          refine rk_i (wr := []) (vr_setting (As := [.int b41_l6]) (rest := []) hF htc hV w_3_216 rfl (rk_pl LP FP) a_2 (FP a_2) b41_l6 r_55 hc_55 (hR 1 _ rfl) (rk_preS hP hD hS hR hn hPL hnl hV [] [(false, 1)] rfl (by decide) rfl (by decide)) rfl rfl hl.1 rfl (lv_room (Nat.le_of_ble_eq_true rfl)) dX0_compareEntries_55 ⟨(Nat.le_of_ble_eq_true rfl), (Nat.le_of_ble_eq_true rfl)⟩ (Nat.le_of_ble_eq_true rfl) (Nat.le_of_ble_eq_true rfl) rfl) hP hD hS hA hR0 hn [] [] rfl rfl (by decide) (by decide) (fun H locs hP hD hS hR => ?_)
          have hP : va_P D vwCl [] H := hP
          have hD : va_D A [] := hD
          refine lv_aload hx hb dX0_compareEntries_58 (lv_at hl 4 rfl) ?_
          refine lv_iload hx hb dX0_compareEntries_60 (lv_at hl 6 rfl) ?_
          obtain ⟨r_62, hc_62, h⟩ := rk_bd h
          refine rk_i (wr := []) (vr_setting (As := [.int b41_l6]) (rest := [.int r_55]) hF htc hV w_3_216 rfl (rk_pl LP FP) a_8 (FP a_8) b41_l6 r_62 hc_62 (hR 0 _ rfl) (rk_preS hP hD hS hR hn hPL hnl hV [] [(false, 0)] rfl (by decide) rfl (by decide)) rfl rfl hl.1 rfl (lv_room (Nat.le_of_ble_eq_true rfl)) dX0_compareEntries_62 ⟨(Nat.le_of_ble_eq_true rfl), (Nat.le_of_ble_eq_true rfl)⟩ (Nat.le_of_ble_eq_true rfl) (Nat.le_of_ble_eq_true rfl) rfl) hP hD hS hA hR0 hn [] [] rfl rfl (by decide) (by decide) (fun H locs hP hD hS hR => ?_)
          have hP : va_P D vwCl [] H := hP
          have hD : va_D A [] := hD
          obtain ⟨r_65, hc_65, h⟩ := rk_bd h
          refine rk_i (wr := []) (va_runS (As := [.int r_55, .int r_62]) (rest := []) hF (mtJ6_compare_7cf53 l D cI cJ cO (rk_pl LP FP) _ r_55 r_62 r_65 hc_65) (va_cwS 2 htc (rk_gVS w_3_213 w_3_214 w_1_13 w_3_215) rfl rfl rfl (by decide +kernel) ⟨(Nat.le_of_ble_eq_true rfl), (Nat.le_of_ble_eq_true rfl)⟩) (rk_preS hP hD hS hR hn hPL hnl hV [] [] rfl (by decide) rfl (by decide)) rfl rfl hl.1 rfl (lv_room (Nat.le_of_ble_eq_true rfl)) dX0_compareEntries_65 ⟨(Nat.le_of_ble_eq_true rfl), (Nat.le_of_ble_eq_true rfl)⟩) hP hD hS hA hR0 hn [] [] rfl rfl (by decide) (by decide) (fun H locs hP hD hS hR => ?_)
          have hP : va_P D vwCl [] H := hP
          have hD : va_D A [] := hD
          refine lv_istore (lv' := [(5, .int r_65), (0, .ref a_this), (1, .int v_p1), (2, .int v_p2), (3, .ref a_2), (4, .ref a_8), (6, .int b41_l6)]) hx hb dX0_compareEntries_68 hl (by decide) rfl (fun ls hl => ?_)
          refine lv_iinc (v := (b41_l6 + 1)) (lv' := [(6, .int (b41_l6 + 1)), (5, .int r_65), (0, .ref a_this), (1, .int v_p1), (2, .int v_p2), (3, .ref a_2), (4, .ref a_8)]) hx hb dX0_compareEntries_70 hl (k := 6) rfl rfl (by decide) rfl (fun ls hl => ?_)
          refine lv_goto (tgt := 41) hx hb dX0_compareEntries_73 (by decide) ?_
          exact ih41 r_65 (b41_l6 + 1) h _ _ hP hD hS _ (lv_sub hl [2, 3, 4, 5, 6, 1, 0] rfl)
  exact L41 FU r_33 (0 : Int32) h _ _ hP hD hS _ (lv_sub hl [4, 5, 6, 3, 2, 1, 0] rfl)
set_option maxHeartbeats 4000000 in
set_option maxRecDepth 100000 in
theorem mtX0_exchange (l : Launch) (D : va_G) (cI cJ cO : ClassId) (LP : List Nat) (FP : Nat → Fm) (sz : Nat) (a_this : Nat) (a_this_families : Nat) (a_this_places : Nat) (f_this_used : Int32) (f_this_product : Int64) (c_this_families : Nat → Option Nat) (c_this_places : Nat → Int64) (v_p1 : Int32) (v_p2 : Int32) (r0 : (Nat → Option Nat) × (Nat → Int64)) (h : fX0_exchange LP f_this_used c_this_families c_this_places v_p1 v_p2 = some r0) : Met l yX0_exchange (rk_w yX0_exchange cX0_exchange 6 none) rmX0_exchange (va_Pc [.ref a_this, .int v_p1, .int v_p2] (rk_B D (rk_TY cI cJ cO) [(a_this_families, .inl (cO, 10, .inr (.inr (.inr (.inr c_this_families))))), (a_this_places, .inl (cJ, 10, .inr (.inl c_this_places)))] [(a_this, .inr (0, [.ref a_this_families, .ref a_this_places, .int f_this_used, .long f_this_product]))] (rk_pl LP FP) sz)) (rk_Qv D [(a_this_families, .inl (cO, 10, .inr (.inr (.inr (.inr r0.1))))), (a_this_places, .inl (cJ, 10, .inr (.inl r0.2)))] [(a_this_families, .inl (cO, 10, .inr (.inr (.inr (.inr c_this_families))))), (a_this_places, .inl (cJ, 10, .inr (.inl c_this_places)))] sz) 0 0 (va_A [(a_this_families, .inl (cO, 10, .inr (.inr (.inr (.inr c_this_families))))), (a_this_places, .inl (cJ, 10, .inr (.inl c_this_places)))] sz) := by
  refine rk_metv h (fun x => [(a_this_families, .inl (cO, 10, .inr (.inr (.inr (.inr x.1))))), (a_this_places, .inl (cJ, 10, .inr (.inl x.2)))]) (by decide) (Nat.le_of_ble_eq_true rfl) ?_
  intro p e s m args below meth c A ls Q hret hname hF hP hD hA hV hR0 hn hPL hnl hl h hS
  have hx := hF.1
  have hb := hF.2.1
  have hml := hF.2.2.1
  have hown : s.vm.findClass RX0 = some m.cls := hF.2.2.2.1
  have htc := hF.2.2.2.2
  have hP : va_P D vwCl [(a_this_families, .inl (cO, 10, .inr (.inr (.inr (.inr c_this_families))))), (a_this_places, .inl (cJ, 10, .inr (.inl c_this_places)))] s.heap := hP
  have hD : va_D A [(a_this_families, .inl (cO, 10, .inr (.inr (.inr (.inr c_this_families))))), (a_this_places, .inl (cJ, 10, .inr (.inl c_this_places)))] := hD
  have hR0 : va_P D vwCl [(a_this, .inr (0, [.ref a_this_families, .ref a_this_places, .int f_this_used, .long f_this_product]))] s.heap := hR0
  have hR := hR0
  have hl : lv_has ls 6 [(0, .ref a_this), (1, .int v_p1), (2, .int v_p2)] := hl
  unfold fX0_exchange at h
  refine lv_aload_n hx hb dX0_exchange_0 rfl (lv_at hl 0 rfl) ?_
  refine lv_iload_n hx hb dX0_exchange_1 rfl (lv_at hl 1 rfl) ?_
  obtain ⟨r_2, hc_2, h⟩ := rk_bd h
  refine rk_q (wr := [(a_this_families, .inl (cO, 10, .inr (.inr (.inr (.inr c_this_families))))), (a_this_places, .inl (cJ, 10, .inr (.inl c_this_places)))]) (va_runV (C := RX0) (As := [.int v_p1]) (rest := []) hF (mtX0_familyAt l D cI cJ cO (rk_pl LP FP) _ a_this a_this_families a_this_places f_this_used f_this_product c_this_families v_p1 r_2 hc_2) (cwV 1 htc (rk_gV w_3_190 w_3_155 ws_24 w_1_4 w_3_156) rfl rfl rfl (by decide +kernel) ⟨(Nat.le_of_ble_eq_true rfl), (Nat.le_of_ble_eq_true rfl)⟩) (rk_preV (va_recv hV.1 hR (ci := 0) (q0 := 0) rfl rfl) (rk_preS hP hD hS hR hn hPL hnl hV [] [(false, 0), (true, 0)] rfl (by decide) rfl (by decide))) rfl rfl hl.1 rfl (lv_room (Nat.le_of_ble_eq_true rfl)) dX0_exchange_2 ⟨(Nat.le_of_ble_eq_true rfl), (Nat.le_of_ble_eq_true rfl)⟩) hP hD hS hA hR0 hn [] [0, 1] rfl rfl (by decide) (by decide) (fun H locs hP hD hS hR => ?_)
  have hP : va_P D vwCl [(a_this_families, .inl (cO, 10, .inr (.inr (.inr (.inr c_this_families))))), (a_this_places, .inl (cJ, 10, .inr (.inl c_this_places)))] H := hP
  have hD : va_D A [(a_this_families, .inl (cO, 10, .inr (.inr (.inr (.inr c_this_families))))), (a_this_places, .inl (cJ, 10, .inr (.inl c_this_places)))] := hD
  rcases r_2 with _ | a_2
  · have h := rk_en h
    exact rk_no h
  have h := rk_es h
  obtain ⟨hm_2, h⟩ := rk_gp h
  obtain ⟨hR0, hn⟩ := rk_imp hm_2 hPL hnl hR0 hn
  have hR := rk_keep hR0 hn hS
  refine lv_astore_n (lv' := [(3, .ref a_2), (0, .ref a_this), (1, .int v_p1), (2, .int v_p2)]) hx hb dX0_exchange_5 rfl hl (by decide) rfl (fun ls hl => ?_)
  refine lv_aload_n hx hb dX0_exchange_6 rfl (lv_at hl 1 rfl) ?_
  refine lv_iload_n hx hb dX0_exchange_7 rfl (lv_at hl 2 rfl) ?_
  obtain ⟨r_8, hc_8, h⟩ := rk_bd h
  refine rk_l (wr := [(a_this_families, .inl (cO, 10, .inr (.inr (.inr (.inr c_this_families))))), (a_this_places, .inl (cJ, 10, .inr (.inl c_this_places)))]) (va_runV (C := RX0) (As := [.int v_p1]) (rest := []) hF (mtX0_placeAt l D cI cJ cO (rk_pl LP FP) _ a_this a_this_families a_this_places f_this_used f_this_product c_this_places v_p1 r_8 hc_8) (cwV 1 htc (rk_gV w_3_191 w_3_159 ws_25 w_1_4 w_3_160) rfl rfl rfl (by decide +kernel) ⟨(Nat.le_of_ble_eq_true rfl), (Nat.le_of_ble_eq_true rfl)⟩) (rk_preV (va_recv hV.1 hR (ci := 0) (q0 := 1) rfl rfl) (rk_preS hP hD hS hR hn hPL hnl hV [] [(false, 1), (true, 1)] rfl (by decide) rfl (by decide))) rfl rfl hl.1 rfl (lv_room (Nat.le_of_ble_eq_true rfl)) dX0_exchange_8 ⟨(Nat.le_of_ble_eq_true rfl), (Nat.le_of_ble_eq_true rfl)⟩) hP hD hS hA hR0 hn [] [0, 1] rfl rfl (by decide) (by decide) (fun H locs hP hD hS hR => ?_)
  have hP : va_P D vwCl [(a_this_families, .inl (cO, 10, .inr (.inr (.inr (.inr c_this_families))))), (a_this_places, .inl (cJ, 10, .inr (.inl c_this_places)))] H := hP
  have hD : va_D A [(a_this_families, .inl (cO, 10, .inr (.inr (.inr (.inr c_this_families))))), (a_this_places, .inl (cJ, 10, .inr (.inl c_this_places)))] := hD
  refine lv_lstore (lv' := [(4, .long r_8), (3, .ref a_2), (0, .ref a_this), (1, .int v_p1), (2, .int v_p2)]) hx hb dX0_exchange_11 hl (by decide) rfl (fun ls hl => ?_)
  refine lv_aload_n hx hb dX0_exchange_13 rfl (lv_at hl 2 rfl) ?_
  refine lv_iload_n hx hb dX0_exchange_14 rfl (lv_at hl 3 rfl) ?_
  refine lv_aload_n hx hb dX0_exchange_15 rfl (lv_at hl 2 rfl) ?_
  refine lv_iload_n hx hb dX0_exchange_16 rfl (lv_at hl 4 rfl) ?_
  obtain ⟨r_17, hc_17, h⟩ := rk_bd h
  refine rk_q (wr := [(a_this_families, .inl (cO, 10, .inr (.inr (.inr (.inr c_this_families))))), (a_this_places, .inl (cJ, 10, .inr (.inl c_this_places)))]) (va_runV (C := RX0) (As := [.int v_p2]) (rest := [.int v_p1, .ref a_this]) hF (mtX0_familyAt l D cI cJ cO (rk_pl LP FP) _ a_this a_this_families a_this_places f_this_used f_this_product c_this_families v_p2 r_17 hc_17) (cwV 1 htc (rk_gV w_3_190 w_3_155 ws_24 w_1_4 w_3_156) rfl rfl rfl (by decide +kernel) ⟨(Nat.le_of_ble_eq_true rfl), (Nat.le_of_ble_eq_true rfl)⟩) (rk_preV (va_recv hV.1 hR (ci := 0) (q0 := 1) rfl rfl) (rk_preS hP hD hS hR hn hPL hnl hV [] [(false, 1), (true, 0)] rfl (by decide) rfl (by decide))) rfl rfl hl.1 rfl (lv_room (Nat.le_of_ble_eq_true rfl)) dX0_exchange_17 ⟨(Nat.le_of_ble_eq_true rfl), (Nat.le_of_ble_eq_true rfl)⟩) hP hD hS hA hR0 hn [] [0, 1] rfl rfl (by decide) (by decide) (fun H locs hP hD hS hR => ?_)
  have hP : va_P D vwCl [(a_this_families, .inl (cO, 10, .inr (.inr (.inr (.inr c_this_families))))), (a_this_places, .inl (cJ, 10, .inr (.inl c_this_places)))] H := hP
  have hD : va_D A [(a_this_families, .inl (cO, 10, .inr (.inr (.inr (.inr c_this_families))))), (a_this_places, .inl (cJ, 10, .inr (.inl c_this_places)))] := hD
  rcases r_17 with _ | a_17
  · have h := rk_en h
    exact rk_no h
  have h := rk_es h
  obtain ⟨hm_17, h⟩ := rk_gp h
  obtain ⟨hR0, hn⟩ := rk_imp hm_17 hPL hnl hR0 hn
  have hR := rk_keep hR0 hn hS
  refine lv_aload_n hx hb dX0_exchange_20 rfl (lv_at hl 2 rfl) ?_
  refine lv_iload_n hx hb dX0_exchange_21 rfl (lv_at hl 4 rfl) ?_
  obtain ⟨r_22, hc_22, h⟩ := rk_bd h
  refine rk_l (wr := [(a_this_families, .inl (cO, 10, .inr (.inr (.inr (.inr c_this_families))))), (a_this_places, .inl (cJ, 10, .inr (.inl c_this_places)))]) (va_runV (C := RX0) (As := [.int v_p2]) (rest := [.ref a_17, .int v_p1, .ref a_this]) hF (mtX0_placeAt l D cI cJ cO (rk_pl LP FP) _ a_this a_this_families a_this_places f_this_used f_this_product c_this_places v_p2 r_22 hc_22) (cwV 1 htc (rk_gV w_3_191 w_3_159 ws_25 w_1_4 w_3_160) rfl rfl rfl (by decide +kernel) ⟨(Nat.le_of_ble_eq_true rfl), (Nat.le_of_ble_eq_true rfl)⟩) (rk_preV (va_recv hV.1 hR (ci := 0) (q0 := 2) rfl rfl) (rk_preS hP hD hS hR hn hPL hnl hV [] [(false, 2), (true, 1)] rfl (by decide) rfl (by decide))) rfl rfl hl.1 rfl (lv_room (Nat.le_of_ble_eq_true rfl)) dX0_exchange_22 ⟨(Nat.le_of_ble_eq_true rfl), (Nat.le_of_ble_eq_true rfl)⟩) hP hD hS hA hR0 hn [] [0, 1] rfl rfl (by decide) (by decide) (fun H locs hP hD hS hR => ?_)
  have hP : va_P D vwCl [(a_this_families, .inl (cO, 10, .inr (.inr (.inr (.inr c_this_families))))), (a_this_places, .inl (cJ, 10, .inr (.inl c_this_places)))] H := hP
  have hD : va_D A [(a_this_families, .inl (cO, 10, .inr (.inr (.inr (.inr c_this_families))))), (a_this_places, .inl (cJ, 10, .inr (.inl c_this_places)))] := hD
  obtain ⟨r_25, hc_25, h⟩ := rk_bd h
  refine rk_v (wr := []) (va_runV (C := RX0) (As := [.int v_p1, .ref a_17, .long r_22]) (rest := []) hF (mtX0_keep l D cI cJ cO (rk_pl LP FP) _ a_this a_this_families a_this_places f_this_used f_this_product a_17 (FP a_17) c_this_families c_this_places v_p1 r_22 r_25 hc_25) (cwV 3 htc (rk_gV w_3_144 w_3_146 ws_23 w_1_4 w_3_147) rfl rfl rfl (by decide +kernel) ⟨(Nat.le_of_ble_eq_true rfl), (Nat.le_of_ble_eq_true rfl)⟩) (rk_preV (va_recv hV.1 hR (ci := 0) (q0 := 2) rfl rfl) (rk_preS hP hD hS hR hn hPL hnl hV [0, 1] [(false, 2), (false, 0)] rfl (by decide) rfl (by decide))) rfl rfl hl.1 rfl (lv_room (Nat.le_of_ble_eq_true rfl)) dX0_exchange_25 ⟨(Nat.le_of_ble_eq_true rfl), (Nat.le_of_ble_eq_true rfl)⟩) hP hD hS hA hR0 hn [0, 1] [] rfl rfl (by decide) (by decide) (fun H locs hP hD hS hR => ?_)
  have hP : va_P D vwCl [(a_this_families, .inl (cO, 10, .inr (.inr (.inr (.inr r_25.1))))), (a_this_places, .inl (cJ, 10, .inr (.inl r_25.2)))] H := hP
  have hD : va_D A [(a_this_families, .inl (cO, 10, .inr (.inr (.inr (.inr r_25.1))))), (a_this_places, .inl (cJ, 10, .inr (.inl r_25.2)))] := hD
  refine lv_aload_n hx hb dX0_exchange_28 rfl (lv_at hl 2 rfl) ?_
  refine lv_iload_n hx hb dX0_exchange_29 rfl (lv_at hl 4 rfl) ?_
  refine lv_aload_n hx hb dX0_exchange_30 rfl (lv_at hl 1 rfl) ?_
  refine lv_lload hx hb dX0_exchange_31 (lv_at hl 0 rfl) ?_
  obtain ⟨r_33, hc_33, h⟩ := rk_bd h
  refine rk_v (wr := []) (va_runV (C := RX0) (As := [.int v_p2, .ref a_2, .long r_8]) (rest := []) hF (mtX0_keep l D cI cJ cO (rk_pl LP FP) _ a_this a_this_families a_this_places f_this_used f_this_product a_2 (FP a_2) r_25.1 r_25.2 v_p2 r_8 r_33 hc_33) (cwV 3 htc (rk_gV w_3_144 w_3_146 ws_23 w_1_4 w_3_147) rfl rfl rfl (by decide +kernel) ⟨(Nat.le_of_ble_eq_true rfl), (Nat.le_of_ble_eq_true rfl)⟩) (rk_preV (va_recv hV.1 hR (ci := 0) (q0 := 2) rfl rfl) (rk_preS hP hD hS hR hn hPL hnl hV [0, 1] [(false, 2), (false, 1)] rfl (by decide) rfl (by decide))) rfl rfl hl.1 rfl (lv_room (Nat.le_of_ble_eq_true rfl)) dX0_exchange_33 ⟨(Nat.le_of_ble_eq_true rfl), (Nat.le_of_ble_eq_true rfl)⟩) hP hD hS hA hR0 hn [0, 1] [] rfl rfl (by decide) (by decide) (fun H locs hP hD hS hR => ?_)
  have hP : va_P D vwCl [(a_this_families, .inl (cO, 10, .inr (.inr (.inr (.inr r_33.1))))), (a_this_places, .inl (cJ, 10, .inr (.inl r_33.2)))] H := hP
  have hD : va_D A [(a_this_families, .inl (cO, 10, .inr (.inr (.inr (.inr r_33.1))))), (a_this_places, .inl (cJ, 10, .inr (.inl r_33.2)))] := hD
  exact hret (r_33.1, r_33.2) _ _ _ _ h dX0_exchange_36 hP hD hS
set_option maxHeartbeats 4000000 in
set_option maxRecDepth 100000 in
theorem mtX0_arrange (l : Launch) (D : va_G) (cI cJ cO : ClassId) (LP : List Nat) (FP : Nat → Fm) (sz : Nat) (a_this : Nat) (a_this_families : Nat) (a_this_places : Nat) (f_this_used : Int32) (f_this_product : Int64) (c_this_families : Nat → Option Nat) (c_this_places : Nat → Int64) (r0 : Int32 × (Nat → Option Nat) × (Nat → Int64)) (h : fX0_arrange LP FP f_this_used c_this_families c_this_places = some r0) : Met l yX0_arrange (rk_w yX0_arrange cX0_arrange 4 (some .boolean)) rmX0_arrange (va_Pc [.ref a_this] (rk_B D (rk_TY cI cJ cO) [(a_this_families, .inl (cO, 10, .inr (.inr (.inr (.inr c_this_families))))), (a_this_places, .inl (cJ, 10, .inr (.inl c_this_places)))] [(a_this, .inr (0, [.ref a_this_families, .ref a_this_places, .int f_this_used, .long f_this_product]))] (rk_pl LP FP) sz)) (rk_Qi r0.1 D [(a_this_families, .inl (cO, 10, .inr (.inr (.inr (.inr r0.2.1))))), (a_this_places, .inl (cJ, 10, .inr (.inl r0.2.2)))] [(a_this_families, .inl (cO, 10, .inr (.inr (.inr (.inr c_this_families))))), (a_this_places, .inl (cJ, 10, .inr (.inl c_this_places)))] sz) 0 0 (va_A [(a_this_families, .inl (cO, 10, .inr (.inr (.inr (.inr c_this_families))))), (a_this_places, .inl (cJ, 10, .inr (.inl c_this_places)))] sz) := by
  refine rk_metz h (fun x : Int32 × (Nat → Option Nat) × (Nat → Int64) => x.1) (fun x => [(a_this_families, .inl (cO, 10, .inr (.inr (.inr (.inr x.2.1))))), (a_this_places, .inl (cJ, 10, .inr (.inl x.2.2)))]) (by decide) (Nat.le_of_ble_eq_true rfl) ?_
  intro p e s m args below meth c A ls Q hret hname hF hP hD hA hV hR0 hn hPL hnl hl h hS
  have hx := hF.1
  have hb := hF.2.1
  have hml := hF.2.2.1
  have hown : s.vm.findClass RX0 = some m.cls := hF.2.2.2.1
  have htc := hF.2.2.2.2
  have hP : va_P D vwCl [(a_this_families, .inl (cO, 10, .inr (.inr (.inr (.inr c_this_families))))), (a_this_places, .inl (cJ, 10, .inr (.inl c_this_places)))] s.heap := hP
  have hD : va_D A [(a_this_families, .inl (cO, 10, .inr (.inr (.inr (.inr c_this_families))))), (a_this_places, .inl (cJ, 10, .inr (.inl c_this_places)))] := hD
  have hR0 : va_P D vwCl [(a_this, .inr (0, [.ref a_this_families, .ref a_this_places, .int f_this_used, .long f_this_product]))] s.heap := hR0
  have hR := hR0
  have hl : lv_has ls 4 [(0, .ref a_this)] := hl
  unfold fX0_arrange at h
  refine lv_iconst (v := 0) hx hb dX0_arrange_0 (by decide) ?_
  refine lv_istore_n (lv' := [(1, .int (0 : Int32)), (0, .ref a_this)]) hx hb dX0_arrange_1 rfl hl (by decide) rfl (fun ls hl => ?_)
  refine lv_iconst (v := 1) hx hb dX0_arrange_2 (by decide) ?_
  refine lv_istore_n (lv' := [(2, .int (1 : Int32)), (1, .int (0 : Int32)), (0, .ref a_this)]) hx hb dX0_arrange_3 rfl hl (by decide) rfl (fun ls hl => ?_)
  have L4 : ∀ (n4 : Nat) (b4_l1 : Int32) (b4_l2 : Int32) (b4_c_this_families : Nat → Option Nat) (b4_c_this_places : Nat → Int64), rk_it4 (fX0_arrange_L4 f_this_used LP FP) n4 b4_l1 b4_l2 b4_c_this_families b4_c_this_places = some r0 → ∀ (H : Heap) (locs : List Loc), va_P D vwCl [(a_this_families, .inl (cO, 10, .inr (.inr (.inr (.inr b4_c_this_families))))), (a_this_places, .inl (cJ, 10, .inr (.inl b4_c_this_places)))] H → va_D A [(a_this_families, .inl (cO, 10, .inr (.inr (.inr (.inr b4_c_this_families))))), (a_this_places, .inl (cJ, 10, .inr (.inl b4_c_this_places)))] → va_S A s.heap H locs → ∀ (ls : Array Slot), lv_has ls 4 [(0, .ref a_this), (1, .int b4_l1), (2, .int b4_l2)] → W p l e rmX0_arrange s m args below meth c H locs 0 0 Q (F0 m 4 ls []) := by
    intro n4
    induction n4 with
    | zero => intro b4_l1 b4_l2 b4_c_this_families b4_c_this_places h; exact rk_no h
    | succ n4 ih4 =>
      intro b4_l1 b4_l2 b4_c_this_families b4_c_this_places h H locs hP hD hS ls hl
      have h : fX0_arrange_L4 f_this_used LP FP (rk_it4 (fX0_arrange_L4 f_this_used LP FP) n4) b4_l1 b4_l2 b4_c_this_families b4_c_this_places = some r0 := h
      unfold fX0_arrange_L4 at h
      have hR := rk_keep hR0 hn hS
      refine lv_iload_n hx hb dX0_arrange_4 rfl (lv_at hl 2 rfl) ?_
      refine lv_aload_n hx hb dX0_arrange_5 rfl (lv_at hl 0 rfl) ?_
      refine va_get (D := D) (ci := 0) (v := .int f_this_used) (C := RX0) (T := TX0) (N := 4) hx hb htc inX0 hown hV.1 hR 0 rfl rfl 2 (by decide) (htc _ w_1_95) (fun _ h9 => h9) rfl dX0_arrange_6 ?_
      refine lv_icmp_ge (tgt := 51) hx hb dX0_arrange_9 (by decide) (fun hc1 => ?_) (fun hc1 => ?_)
      · have h := rk_if hc1 h
        refine lv_iload_n hx hb dX0_arrange_51 rfl (lv_at hl 1 rfl) ?_
        obtain ⟨hz2, h⟩ := rk_gp h
        exact hret (b4_l1, b4_c_this_families, b4_c_this_places) _ _ _ _ h (rk_nz hz2) dX0_arrange_52 hP hD hS
      · have h := rk_nif hc1 h
        refine lv_iload_n hx hb dX0_arrange_12 rfl (lv_at hl 2 rfl) ?_
        refine lv_istore_n (lv' := [(3, .int b4_l2), (0, .ref a_this), (1, .int b4_l1), (2, .int b4_l2)]) hx hb dX0_arrange_13 rfl hl (by decide) rfl (fun ls hl => ?_)
        have L14 : ∀ (n14 : Nat) (b14_l1 : Int32) (b14_l3 : Int32) (b14_c_this_families : Nat → Option Nat) (b14_c_this_places : Nat → Int64), rk_it4 (fX0_arrange_L14 f_this_used LP FP b4_l2 (rk_it4 (fX0_arrange_L4 f_this_used LP FP) n4)) n14 b14_l1 b14_l3 b14_c_this_families b14_c_this_places = some r0 → ∀ (H : Heap) (locs : List Loc), va_P D vwCl [(a_this_families, .inl (cO, 10, .inr (.inr (.inr (.inr b14_c_this_families))))), (a_this_places, .inl (cJ, 10, .inr (.inl b14_c_this_places)))] H → va_D A [(a_this_families, .inl (cO, 10, .inr (.inr (.inr (.inr b14_c_this_families))))), (a_this_places, .inl (cJ, 10, .inr (.inl b14_c_this_places)))] → va_S A s.heap H locs → ∀ (ls : Array Slot), lv_has ls 4 [(0, .ref a_this), (1, .int b14_l1), (2, .int b4_l2), (3, .int b14_l3)] → W p l e rmX0_arrange s m args below meth c H locs 0 0 Q (F0 m 14 ls []) := by
          intro n14
          induction n14 with
          | zero => intro b14_l1 b14_l3 b14_c_this_families b14_c_this_places h; exact rk_no h
          | succ n14 ih14 =>
            intro b14_l1 b14_l3 b14_c_this_families b14_c_this_places h H locs hP hD hS ls hl
            have h : fX0_arrange_L14 f_this_used LP FP b4_l2 (rk_it4 (fX0_arrange_L4 f_this_used LP FP) n4) (rk_it4 (fX0_arrange_L14 f_this_used LP FP b4_l2 (rk_it4 (fX0_arrange_L4 f_this_used LP FP) n4)) n14) b14_l1 b14_l3 b14_c_this_families b14_c_this_places = some r0 := h
            unfold fX0_arrange_L14 at h
            have hR := rk_keep hR0 hn hS
            refine lv_iload_n hx hb dX0_arrange_14 rfl (lv_at hl 3 rfl) ?_
            have B45 : fX0_arrange_B45 b4_l2 (rk_it4 (fX0_arrange_L4 f_this_used LP FP) n4) b14_l1 b14_c_this_families b14_c_this_places = some r0 → ∀ (H : Heap) (locs : List Loc), va_P D vwCl [(a_this_families, .inl (cO, 10, .inr (.inr (.inr (.inr b14_c_this_families))))), (a_this_places, .inl (cJ, 10, .inr (.inl b14_c_this_places)))] H → va_D A [(a_this_families, .inl (cO, 10, .inr (.inr (.inr (.inr b14_c_this_families))))), (a_this_places, .inl (cJ, 10, .inr (.inl b14_c_this_places)))] → va_S A s.heap H locs → ∀ (ls : Array Slot), lv_has ls 4 [(0, .ref a_this), (1, .int b14_l1), (2, .int b4_l2)] → W p l e rmX0_arrange s m args below meth c H locs 0 0 Q (F0 m 45 ls []) := by
              intro  h H locs hP hD hS ls hl
              unfold fX0_arrange_B45 at h
              have hR := rk_keep hR0 hn hS
              refine lv_iinc (v := (b4_l2 + 1)) (lv' := [(2, .int (b4_l2 + 1)), (0, .ref a_this), (1, .int b14_l1)]) hx hb dX0_arrange_45 hl (k := 2) rfl rfl (by decide) rfl (fun ls hl => ?_)
              refine lv_goto (tgt := 4) hx hb dX0_arrange_48 (by decide) ?_
              exact ih4 b14_l1 (b4_l2 + 1) b14_c_this_families b14_c_this_places h _ _ hP hD hS _ (lv_sub hl [1, 2, 0] rfl)
            refine lv_if_le (tgt := 45) hx hb dX0_arrange_15 (by decide) (fun hc3 => ?_) (fun hc3 => ?_)
            · have h := rk_if hc3 h
              exact B45  h _ _ hP hD hS _ (lv_sub hl [0, 1, 2] rfl)
            · have h := rk_nif hc3 h
              refine lv_aload_n hx hb dX0_arrange_18 rfl (lv_at hl 0 rfl) ?_
              refine lv_iload_n hx hb dX0_arrange_19 rfl (lv_at hl 3 rfl) ?_
              refine lv_iconst (v := 1) hx hb dX0_arrange_20 (by decide) ?_
              refine lv_isub hx hb dX0_arrange_21 ?_
              refine lv_iload_n hx hb dX0_arrange_22 rfl (lv_at hl 3 rfl) ?_
              obtain ⟨r_23, hc_23, h⟩ := rk_bd h
              refine rk_i (wr := [(a_this_families, .inl (cO, 10, .inr (.inr (.inr (.inr b14_c_this_families))))), (a_this_places, .inl (cJ, 10, .inr (.inl b14_c_this_places)))]) (va_runV (C := RX0) (As := [.int (b14_l3 - (1 : Int32)), .int b14_l3]) (rest := []) hF (mtX0_compareEntries l D cI cJ cO LP FP _ a_this a_this_families a_this_places f_this_used f_this_product b14_c_this_families b14_c_this_places (b14_l3 - (1 : Int32)) b14_l3 r_23 hc_23) (cwV 2 htc (rk_gV w_3_209 w_3_211 ws_31 w_1_4 w_3_212) rfl rfl rfl (by decide +kernel) ⟨(Nat.le_of_ble_eq_true rfl), (Nat.le_of_ble_eq_true rfl)⟩) (rk_preV (va_recv hV.1 hR (ci := 0) (q0 := 0) rfl rfl) (rk_preS hP hD hS hR hn hPL hnl hV [] [(false, 0), (true, 0), (true, 1)] rfl (by decide) rfl (by decide))) rfl rfl hl.1 rfl (lv_room (Nat.le_of_ble_eq_true rfl)) dX0_arrange_23 ⟨(Nat.le_of_ble_eq_true rfl), (Nat.le_of_ble_eq_true rfl)⟩) hP hD hS hA hR0 hn [] [0, 1] rfl rfl (by decide) (by decide) (fun H locs hP hD hS hR => ?_)
              have hP : va_P D vwCl [(a_this_families, .inl (cO, 10, .inr (.inr (.inr (.inr b14_c_this_families))))), (a_this_places, .inl (cJ, 10, .inr (.inl b14_c_this_places)))] H := hP
              have hD : va_D A [(a_this_families, .inl (cO, 10, .inr (.inr (.inr (.inr b14_c_this_families))))), (a_this_places, .inl (cJ, 10, .inr (.inl b14_c_this_places)))] := hD
              refine lv_if_le (tgt := 45) hx hb dX0_arrange_26 (by decide) (fun hc4 => ?_) (fun hc4 => ?_)
              · have h := rk_if hc4 h
                exact B45  h _ _ hP hD hS _ (lv_sub hl [0, 1, 2] rfl)
              · have h := rk_nif hc4 h
                refine lv_aload_n hx hb dX0_arrange_29 rfl (lv_at hl 0 rfl) ?_
                refine lv_iload_n hx hb dX0_arrange_30 rfl (lv_at hl 3 rfl) ?_
                refine lv_iconst (v := 1) hx hb dX0_arrange_31 (by decide) ?_
                refine lv_isub hx hb dX0_arrange_32 ?_
                refine lv_iload_n hx hb dX0_arrange_33 rfl (lv_at hl 3 rfl) ?_
                obtain ⟨r_34, hc_34, h⟩ := rk_bd h
                refine rk_v (wr := []) (va_runV (C := RX0) (As := [.int (b14_l3 - (1 : Int32)), .int b14_l3]) (rest := []) hF (mtX0_exchange l D cI cJ cO LP FP _ a_this a_this_families a_this_places f_this_used f_this_product b14_c_this_families b14_c_this_places (b14_l3 - (1 : Int32)) b14_l3 r_34 hc_34) (cwV 2 htc (rk_gV w_3_220 w_3_222 ws_32 w_1_4 w_3_223) rfl rfl rfl (by decide +kernel) ⟨(Nat.le_of_ble_eq_true rfl), (Nat.le_of_ble_eq_true rfl)⟩) (rk_preV (va_recv hV.1 hR (ci := 0) (q0 := 0) rfl rfl) (rk_preS hP hD hS hR hn hPL hnl hV [0, 1] [(false, 0)] rfl (by decide) rfl (by decide))) rfl rfl hl.1 rfl (lv_room (Nat.le_of_ble_eq_true rfl)) dX0_arrange_34 ⟨(Nat.le_of_ble_eq_true rfl), (Nat.le_of_ble_eq_true rfl)⟩) hP hD hS hA hR0 hn [0, 1] [] rfl rfl (by decide) (by decide) (fun H locs hP hD hS hR => ?_)
                have hP : va_P D vwCl [(a_this_families, .inl (cO, 10, .inr (.inr (.inr (.inr r_34.1))))), (a_this_places, .inl (cJ, 10, .inr (.inl r_34.2)))] H := hP
                have hD : va_D A [(a_this_families, .inl (cO, 10, .inr (.inr (.inr (.inr r_34.1))))), (a_this_places, .inl (cJ, 10, .inr (.inl r_34.2)))] := hD
                refine lv_iconst (v := 1) hx hb dX0_arrange_37 (by decide) ?_
                refine lv_istore_n (lv' := [(1, .int (1 : Int32)), (0, .ref a_this), (2, .int b4_l2), (3, .int b14_l3)]) hx hb dX0_arrange_38 rfl hl (by decide) rfl (fun ls hl => ?_)
                refine lv_iinc (v := (b14_l3 + (-1))) (lv' := [(3, .int (b14_l3 + (-1))), (1, .int (1 : Int32)), (0, .ref a_this), (2, .int b4_l2)]) hx hb dX0_arrange_39 hl (k := 3) rfl rfl (by decide) rfl (fun ls hl => ?_)
                refine lv_goto (tgt := 14) hx hb dX0_arrange_42 (by decide) ?_
                exact ih14 (1 : Int32) (b14_l3 + (-1)) r_34.1 r_34.2 h _ _ hP hD hS _ (lv_sub hl [2, 1, 3, 0] rfl)
        exact L14 FU b4_l1 b4_l2 b4_c_this_families b4_c_this_places h _ _ hP hD hS _ (lv_sub hl [1, 2, 3, 0] rfl)
  exact L4 FU (0 : Int32) (1 : Int32) c_this_families c_this_places h _ _ hP hD hS _ (lv_sub hl [2, 1, 0] rfl)
set_option maxHeartbeats 4000000 in
set_option maxRecDepth 100000 in
theorem mtX3_init_X1 (l : Launch) (D : va_G) (cI cJ cO : ClassId) (PL : va_W) (sz : Nat) (a_this : Nat) (v_p1 : Int32) (v_p2 : Int32) (v_p3 : Int64) (r0 : Int32 × Int32 × Int64 × Int32 × Int32 × Int32 × Int32) (h : fX3_init_X1 v_p1 v_p2 v_p3 = some r0) : Met l yX3_init (rk_w yX3_init cX3_init 5 none) rmX3_init_X1 (va_Pc [.ref a_this, .int v_p1, .int v_p2, .long v_p3] (rk_B D (rk_TY cI cJ cO) [(a_this, .inr (1, [.int 0, .int 0, .long 0, .int 0, .int 0, .int 0, .int 0]))] [] PL sz)) (rk_Qv D [(a_this, .inr (1, [.int r0.1, .int r0.2.1, .long r0.2.2.1, .int r0.2.2.2.1, .int r0.2.2.2.2.1, .int r0.2.2.2.2.2.1, .int r0.2.2.2.2.2.2]))] [(a_this, .inr (1, [.int 0, .int 0, .long 0, .int 0, .int 0, .int 0, .int 0]))] sz) 0 0 (va_A [(a_this, .inr (1, [.int 0, .int 0, .long 0, .int 0, .int 0, .int 0, .int 0]))] sz) := by
  refine rk_metv h (fun x => [(a_this, .inr (1, [.int x.1, .int x.2.1, .long x.2.2.1, .int x.2.2.2.1, .int x.2.2.2.2.1, .int x.2.2.2.2.2.1, .int x.2.2.2.2.2.2]))]) (by decide) (Nat.le_of_ble_eq_true rfl) ?_
  intro p e s m args below meth c A ls Q hret hname hF hP hD hA hV hR0 hn hPL hnl hl h hS
  have hx := hF.1
  have hb := hF.2.1
  have hml := hF.2.2.1
  have hown : s.vm.findClass RX3 = some m.cls := hF.2.2.2.1
  have htc := hF.2.2.2.2
  have hname : meth.name = "<init>" := hname
  have hP : va_P D vwCl [(a_this, .inr (1, [.int 0, .int 0, .long 0, .int 0, .int 0, .int 0, .int 0]))] s.heap := hP
  have hD : va_D A [(a_this, .inr (1, [.int 0, .int 0, .long 0, .int 0, .int 0, .int 0, .int 0]))] := hD
  have hR0 : va_P D vwCl [] s.heap := hR0
  have hR := hR0
  have hl : lv_has ls 5 [(0, .ref a_this), (1, .int v_p1), (2, .int v_p2), (3, .long v_p3)] := hl
  unfold fX3_init_X1 at h
  refine lv_aload_n hx hb dX3_init_0 rfl (lv_at hl 0 rfl) ?_
  refine W.objInit hx hb hown (htc _ w_1_116) (htc _ w_1_21) (htc _ w_1_22) rfl (by rw [hml]; exact hl.1) rfl dX3_init_1 (Nat.le_of_ble_eq_true rfl) (Nat.le_of_ble_eq_true rfl) ?_
  refine W.eq (g2 := F0 m 4 ls []) rfl ?_
  refine lv_aload_n hx hb dX3_init_4 rfl (lv_at hl 0 rfl) ?_
  refine lv_iload_n hx hb dX3_init_5 rfl (lv_at hl 1 rfl) ?_
  refine va_putF (D := D) (ci := 1) (v := .int v_p1) (ty := .int) (C := RX1) (T := TX1) (N := 7) hx hb htc inX1 tyX1 tyX1_ok nmX1 hown hV.1 hP hD hS 0 rfl rfl 0 (by decide) (htc _ w_1_119) (fun _ h9 => h9) rfl hname rfl (by decide +kernel) rfl rfl (Nat.le_of_ble_eq_true rfl) dX3_init_6 (fun H locs hP hD hS => ?_)
  have hP : va_P D vwCl [(a_this, .inr (1, [.int v_p1, .int 0, .long 0, .int 0, .int 0, .int 0, .int 0]))] H := hP
  have hD : va_D A [(a_this, .inr (1, [.int v_p1, .int 0, .long 0, .int 0, .int 0, .int 0, .int 0]))] := hD
  refine lv_aload_n hx hb dX3_init_9 rfl (lv_at hl 0 rfl) ?_
  refine lv_iload_n hx hb dX3_init_10 rfl (lv_at hl 2 rfl) ?_
  refine va_putF (D := D) (ci := 1) (v := .int v_p2) (ty := .int) (C := RX1) (T := TX1) (N := 7) hx hb htc inX1 tyX1 tyX1_ok nmX1 hown hV.1 hP hD hS 0 rfl rfl 1 (by decide) (htc _ w_1_122) (fun _ h9 => h9) rfl hname rfl (by decide +kernel) rfl rfl (Nat.le_of_ble_eq_true rfl) dX3_init_11 (fun H locs hP hD hS => ?_)
  have hP : va_P D vwCl [(a_this, .inr (1, [.int v_p1, .int v_p2, .long 0, .int 0, .int 0, .int 0, .int 0]))] H := hP
  have hD : va_D A [(a_this, .inr (1, [.int v_p1, .int v_p2, .long 0, .int 0, .int 0, .int 0, .int 0]))] := hD
  refine lv_aload_n hx hb dX3_init_14 rfl (lv_at hl 0 rfl) ?_
  refine lv_lload_n hx hb dX3_init_15 rfl (lv_at hl 3 rfl) ?_
  refine va_putF (D := D) (ci := 1) (v := .long v_p3) (ty := .long) (C := RX1) (T := TX1) (N := 7) hx hb htc inX1 tyX1 tyX1_ok nmX1 hown hV.1 hP hD hS 0 rfl rfl 2 (by decide) (htc _ w_1_136) (fun _ h9 => h9) rfl hname rfl (by decide +kernel) rfl rfl (Nat.le_of_ble_eq_true rfl) dX3_init_16 (fun H locs hP hD hS => ?_)
  have hP : va_P D vwCl [(a_this, .inr (1, [.int v_p1, .int v_p2, .long v_p3, .int 0, .int 0, .int 0, .int 0]))] H := hP
  have hD : va_D A [(a_this, .inr (1, [.int v_p1, .int v_p2, .long v_p3, .int 0, .int 0, .int 0, .int 0]))] := hD
  exact hret (v_p1, v_p2, v_p3, 0, 0, 0, 0) _ _ _ _ h dX3_init_19 hP hD hS
set_option maxHeartbeats 4000000 in
set_option maxRecDepth 100000 in
theorem mtX1_init (l : Launch) (D : va_G) (cI cJ cO : ClassId) (PL : va_W) (sz : Nat) (a_this : Nat) (v_p1 : Int32) (v_p2 : Int32) (v_p3 : Int32) (v_p4 : Int32) (v_p5 : Int64) (r0 : Int32 × Int32 × Int64 × Int32 × Int32 × Int32 × Int32) (h : fX1_init v_p1 v_p2 v_p3 v_p4 v_p5 = some r0) : Met l yX1_init (rk_w yX1_init cX1_init 7 none) rmX1_init (va_Pc [.ref a_this, .int v_p1, .int v_p2, .int v_p3, .int v_p4, .long v_p5] (rk_B D (rk_TY cI cJ cO) [(a_this, .inr (1, [.int 0, .int 0, .long 0, .int 0, .int 0, .int 0, .int 0]))] [] PL sz)) (rk_Qv D [(a_this, .inr (1, [.int r0.1, .int r0.2.1, .long r0.2.2.1, .int r0.2.2.2.1, .int r0.2.2.2.2.1, .int r0.2.2.2.2.2.1, .int r0.2.2.2.2.2.2]))] [(a_this, .inr (1, [.int 0, .int 0, .long 0, .int 0, .int 0, .int 0, .int 0]))] sz) 0 0 (va_A [(a_this, .inr (1, [.int 0, .int 0, .long 0, .int 0, .int 0, .int 0, .int 0]))] sz) := by
  refine rk_metv h (fun x => [(a_this, .inr (1, [.int x.1, .int x.2.1, .long x.2.2.1, .int x.2.2.2.1, .int x.2.2.2.2.1, .int x.2.2.2.2.2.1, .int x.2.2.2.2.2.2]))]) (by decide) (Nat.le_of_ble_eq_true rfl) ?_
  intro p e s m args below meth c A ls Q hret hname hF hP hD hA hV hR0 hn hPL hnl hl h hS
  have hx := hF.1
  have hb := hF.2.1
  have hml := hF.2.2.1
  have hown : s.vm.findClass RX1 = some m.cls := hF.2.2.2.1
  have htc := hF.2.2.2.2
  have hname : meth.name = "<init>" := hname
  have hP : va_P D vwCl [(a_this, .inr (1, [.int 0, .int 0, .long 0, .int 0, .int 0, .int 0, .int 0]))] s.heap := hP
  have hD : va_D A [(a_this, .inr (1, [.int 0, .int 0, .long 0, .int 0, .int 0, .int 0, .int 0]))] := hD
  have hR0 : va_P D vwCl [] s.heap := hR0
  have hR := hR0
  have hl : lv_has ls 7 [(0, .ref a_this), (1, .int v_p1), (2, .int v_p2), (3, .int v_p3), (4, .int v_p4), (5, .long v_p5)] := hl
  unfold fX1_init at h
  refine lv_aload_n hx hb dX1_init_0 rfl (lv_at hl 0 rfl) ?_
  refine lv_iconst (v := 5) hx hb dX1_init_1 (by decide) ?_
  refine lv_iload_n hx hb dX1_init_2 rfl (lv_at hl 1 rfl) ?_
  refine lv_iload_n hx hb dX1_init_3 rfl (lv_at hl 2 rfl) ?_
  refine lv_iadd hx hb dX1_init_4 ?_
  refine lv_iload_n hx hb dX1_init_5 rfl (lv_at hl 3 rfl) ?_
  refine lv_iadd hx hb dX1_init_6 ?_
  refine lv_iload hx hb dX1_init_7 (lv_at hl 4 rfl) ?_
  refine lv_iadd hx hb dX1_init_9 ?_
  refine lv_lload hx hb dX1_init_10 (lv_at hl 5 rfl) ?_
  obtain ⟨r_12, hc_12, h⟩ := rk_bd h
  refine rk_v (wr := []) (va_runI (As := [.int (5 : Int32), .int (((v_p1 + v_p2) + v_p3) + v_p4), .long v_p5]) (rest := []) hF (mtX3_init_X1 l D cI cJ cO PL _ a_this (5 : Int32) (((v_p1 + v_p2) + v_p3) + v_p4) v_p5 r_12 hc_12) (cwI 3 htc (rk_gw w_1_115) rfl rfl rfl (htc _ w_1_5) (htc _ w_2_155) (htc _ w_1_114) rfl (by decide +kernel) ⟨(Nat.le_of_ble_eq_true rfl), (Nat.le_of_ble_eq_true rfl)⟩) (rk_preS hP hD hS rk_nilP hn hPL hnl hV [0] [] rfl (by decide) rfl (by decide)) rfl rfl hl.1 rfl (lv_room (Nat.le_of_ble_eq_true rfl)) dX1_init_12 ⟨(Nat.le_of_ble_eq_true rfl), (Nat.le_of_ble_eq_true rfl)⟩) hP hD hS hA hR0 hn [0] [] rfl rfl (by decide) (by decide) (fun H locs hP hD hS hR => ?_)
  have hP : va_P D vwCl [(a_this, .inr (1, [.int r_12.1, .int r_12.2.1, .long r_12.2.2.1, .int r_12.2.2.2.1, .int r_12.2.2.2.2.1, .int r_12.2.2.2.2.2.1, .int r_12.2.2.2.2.2.2]))] H := hP
  have hD : va_D A [(a_this, .inr (1, [.int r_12.1, .int r_12.2.1, .long r_12.2.2.1, .int r_12.2.2.2.1, .int r_12.2.2.2.2.1, .int r_12.2.2.2.2.2.1, .int r_12.2.2.2.2.2.2]))] := hD
  refine lv_aload_n hx hb dX1_init_15 rfl (lv_at hl 0 rfl) ?_
  refine lv_iload_n hx hb dX1_init_16 rfl (lv_at hl 1 rfl) ?_
  refine va_putF (D := D) (ci := 1) (v := .int v_p1) (ty := .int) (C := RX1) (T := TX1) (N := 7) hx hb htc inX1 tyX1 tyX1_ok nmX1 hown hV.1 hP hD hS 0 rfl rfl 3 (by decide) (htc _ w_2_156) (fun _ h9 => h9) rfl hname rfl (by decide +kernel) rfl rfl (Nat.le_of_ble_eq_true rfl) dX1_init_17 (fun H locs hP hD hS => ?_)
  have hP : va_P D vwCl [(a_this, .inr (1, [.int r_12.1, .int r_12.2.1, .long r_12.2.2.1, .int v_p1, .int r_12.2.2.2.2.1, .int r_12.2.2.2.2.2.1, .int r_12.2.2.2.2.2.2]))] H := hP
  have hD : va_D A [(a_this, .inr (1, [.int r_12.1, .int r_12.2.1, .long r_12.2.2.1, .int v_p1, .int r_12.2.2.2.2.1, .int r_12.2.2.2.2.2.1, .int r_12.2.2.2.2.2.2]))] := hD
  refine lv_aload_n hx hb dX1_init_20 rfl (lv_at hl 0 rfl) ?_
  refine lv_iload_n hx hb dX1_init_21 rfl (lv_at hl 2 rfl) ?_
  refine va_putF (D := D) (ci := 1) (v := .int v_p2) (ty := .int) (C := RX1) (T := TX1) (N := 7) hx hb htc inX1 tyX1 tyX1_ok nmX1 hown hV.1 hP hD hS 0 rfl rfl 4 (by decide) (htc _ w_2_157) (fun _ h9 => h9) rfl hname rfl (by decide +kernel) rfl rfl (Nat.le_of_ble_eq_true rfl) dX1_init_22 (fun H locs hP hD hS => ?_)
  have hP : va_P D vwCl [(a_this, .inr (1, [.int r_12.1, .int r_12.2.1, .long r_12.2.2.1, .int v_p1, .int v_p2, .int r_12.2.2.2.2.2.1, .int r_12.2.2.2.2.2.2]))] H := hP
  have hD : va_D A [(a_this, .inr (1, [.int r_12.1, .int r_12.2.1, .long r_12.2.2.1, .int v_p1, .int v_p2, .int r_12.2.2.2.2.2.1, .int r_12.2.2.2.2.2.2]))] := hD
  refine lv_aload_n hx hb dX1_init_25 rfl (lv_at hl 0 rfl) ?_
  refine lv_iload_n hx hb dX1_init_26 rfl (lv_at hl 3 rfl) ?_
  refine va_putF (D := D) (ci := 1) (v := .int v_p3) (ty := .int) (C := RX1) (T := TX1) (N := 7) hx hb htc inX1 tyX1 tyX1_ok nmX1 hown hV.1 hP hD hS 0 rfl rfl 5 (by decide) (htc _ w_2_158) (fun _ h9 => h9) rfl hname rfl (by decide +kernel) rfl rfl (Nat.le_of_ble_eq_true rfl) dX1_init_27 (fun H locs hP hD hS => ?_)
  have hP : va_P D vwCl [(a_this, .inr (1, [.int r_12.1, .int r_12.2.1, .long r_12.2.2.1, .int v_p1, .int v_p2, .int v_p3, .int r_12.2.2.2.2.2.2]))] H := hP
  have hD : va_D A [(a_this, .inr (1, [.int r_12.1, .int r_12.2.1, .long r_12.2.2.1, .int v_p1, .int v_p2, .int v_p3, .int r_12.2.2.2.2.2.2]))] := hD
  refine lv_aload_n hx hb dX1_init_30 rfl (lv_at hl 0 rfl) ?_
  refine lv_iload hx hb dX1_init_31 (lv_at hl 4 rfl) ?_
  refine va_putF (D := D) (ci := 1) (v := .int v_p4) (ty := .int) (C := RX1) (T := TX1) (N := 7) hx hb htc inX1 tyX1 tyX1_ok nmX1 hown hV.1 hP hD hS 0 rfl rfl 6 (by decide) (htc _ w_2_159) (fun _ h9 => h9) rfl hname rfl (by decide +kernel) rfl rfl (Nat.le_of_ble_eq_true rfl) dX1_init_33 (fun H locs hP hD hS => ?_)
  have hP : va_P D vwCl [(a_this, .inr (1, [.int r_12.1, .int r_12.2.1, .long r_12.2.2.1, .int v_p1, .int v_p2, .int v_p3, .int v_p4]))] H := hP
  have hD : va_D A [(a_this, .inr (1, [.int r_12.1, .int r_12.2.1, .long r_12.2.2.1, .int v_p1, .int v_p2, .int v_p3, .int v_p4]))] := hD
  exact hret (r_12.1, r_12.2.1, r_12.2.2.1, v_p1, v_p2, v_p3, v_p4) _ _ _ _ h dX1_init_36 hP hD hS
set_option maxHeartbeats 4000000 in
set_option maxRecDepth 100000 in
theorem mtX9_set (l : Launch) (D : va_G) (cI cJ cO : ClassId) (PL : va_W) (sz : Nat) (a_p0 : Nat) (n_p0 : Nat) (c_p0 : Nat → Int32) (v_p1 : Int32) (v_p2 : Int32) (r0 : (Nat → Int32)) (h : fX9_set n_p0 c_p0 v_p1 v_p2 = some r0) : Met l yX9_set (rk_w yX9_set cX9_set 3 none) rmX9_set (va_Pc [.ref a_p0, .int v_p1, .int v_p2] (rk_B D (rk_TY cI cJ cO) [(a_p0, .inl (cI, n_p0, .inl c_p0))] [] PL sz)) (rk_Qv D [(a_p0, .inl (cI, n_p0, .inl r0))] [(a_p0, .inl (cI, n_p0, .inl c_p0))] sz) 0 0 (va_A [(a_p0, .inl (cI, n_p0, .inl c_p0))] sz) := by
  refine rk_metv h (fun x => [(a_p0, .inl (cI, n_p0, .inl x))]) (by decide) (Nat.le_of_ble_eq_true rfl) ?_
  intro p e s m args below meth c A ls Q hret hname hF hP hD hA hV hR0 hn hPL hnl hl h hS
  have hx := hF.1
  have hb := hF.2.1
  have hml := hF.2.2.1
  have hown : s.vm.findClass RX9 = some m.cls := hF.2.2.2.1
  have htc := hF.2.2.2.2
  have hP : va_P D vwCl [(a_p0, .inl (cI, n_p0, .inl c_p0))] s.heap := hP
  have hD : va_D A [(a_p0, .inl (cI, n_p0, .inl c_p0))] := hD
  have hR0 : va_P D vwCl [] s.heap := hR0
  have hR := hR0
  have hl : lv_has ls 3 [(0, .ref a_p0), (1, .int v_p1), (2, .int v_p2)] := hl
  unfold fX9_set at h
  refine lv_iload_n hx hb dX9_set_0 rfl (lv_at hl 1 rfl) ?_
  refine lv_if_lt (tgt := 14) hx hb dX9_set_1 (by decide) (fun hc1 => ?_) (fun hc1 => ?_)
  · have h := rk_if hc1 h
    exact hret c_p0 _ _ _ _ h dX9_set_14 hP hD hS
  · have h := rk_nif hc1 h
    refine lv_iload_n hx hb dX9_set_4 rfl (lv_at hl 1 rfl) ?_
    refine lv_aload_n hx hb dX9_set_5 rfl (lv_at hl 0 rfl) ?_
    refine va_alen hx hb hV.1 hP 0 0 rfl rfl rfl dX9_set_6 ?_
    refine lv_icmp_ge (tgt := 14) hx hb dX9_set_7 (by decide) (fun hc2 => ?_) (fun hc2 => ?_)
    · have h := rk_if hc2 h
      exact hret c_p0 _ _ _ _ h dX9_set_14 hP hD hS
    · have h := rk_nif hc2 h
      refine lv_aload_n hx hb dX9_set_10 rfl (lv_at hl 0 rfl) ?_
      refine lv_iload_n hx hb dX9_set_11 rfl (lv_at hl 1 rfl) ?_
      refine lv_iload_n hx hb dX9_set_12 rfl (lv_at hl 2 rfl) ?_
      obtain ⟨hg3, h⟩ := rk_gd h
      refine va_iast hx hb hV.1 hP hD hS 0 0 rfl rfl hg3 dX9_set_13 (fun H locs hP hD hS => ?_)
      have hP : va_P D vwCl [(a_p0, .inl (cI, n_p0, .inl (upd c_p0 v_p1.toNatClampNeg v_p2)))] H := hP
      have hD : va_D A [(a_p0, .inl (cI, n_p0, .inl (upd c_p0 v_p1.toNatClampNeg v_p2)))] := hD
      exact hret (upd c_p0 v_p1.toNatClampNeg v_p2) _ _ _ _ h dX9_set_14 hP hD hS
set_option maxHeartbeats 4000000 in
set_option maxRecDepth 100000 in
theorem mtX1_layOutLetters (l : Launch) (D : va_G) (cI cJ cO : ClassId) (PL : va_W) (sz : Nat) (a_p1 : Nat) (c_p1 : Nat → Int32) (a_this : Nat) (f_this_number : Int32) (f_this_width : Int32) (f_this_size : Int64) (f_this_zeros : Int32) (f_this_ones : Int32) (f_this_twos : Int32) (f_this_threes : Int32) (r0 : (Nat → Int32)) (h : fX1_layOutLetters c_p1 f_this_zeros f_this_ones f_this_twos f_this_threes = some r0) : Met l yX1_layOutLetters (rk_w yX1_layOutLetters cX1_layOutLetters 3 none) rmX1_layOutLetters (va_Pc [.ref a_this, .ref a_p1] (rk_B D (rk_TY cI cJ cO) [(a_p1, .inl (cI, 4, .inl c_p1))] [(a_this, .inr (1, [.int f_this_number, .int f_this_width, .long f_this_size, .int f_this_zeros, .int f_this_ones, .int f_this_twos, .int f_this_threes]))] PL sz)) (rk_Qv D [(a_p1, .inl (cI, 4, .inl r0))] [(a_p1, .inl (cI, 4, .inl c_p1))] sz) 0 0 (va_A [(a_p1, .inl (cI, 4, .inl c_p1))] sz) := by
  refine rk_metv h (fun x => [(a_p1, .inl (cI, 4, .inl x))]) (by decide) (Nat.le_of_ble_eq_true rfl) ?_
  intro p e s m args below meth c A ls Q hret hname hF hP hD hA hV hR0 hn hPL hnl hl h hS
  have hx := hF.1
  have hb := hF.2.1
  have hml := hF.2.2.1
  have hown : s.vm.findClass RX1 = some m.cls := hF.2.2.2.1
  have htc := hF.2.2.2.2
  have hP : va_P D vwCl [(a_p1, .inl (cI, 4, .inl c_p1))] s.heap := hP
  have hD : va_D A [(a_p1, .inl (cI, 4, .inl c_p1))] := hD
  have hR0 : va_P D vwCl [(a_this, .inr (1, [.int f_this_number, .int f_this_width, .long f_this_size, .int f_this_zeros, .int f_this_ones, .int f_this_twos, .int f_this_threes]))] s.heap := hR0
  have hR := hR0
  have hl : lv_has ls 3 [(0, .ref a_this), (1, .ref a_p1)] := hl
  unfold fX1_layOutLetters at h
  refine lv_iconst (v := 0) hx hb dX1_layOutLetters_0 (by decide) ?_
  refine lv_istore_n (lv' := [(2, .int (0 : Int32)), (0, .ref a_this), (1, .ref a_p1)]) hx hb dX1_layOutLetters_1 rfl hl (by decide) rfl (fun ls hl => ?_)
  have L2 : ∀ (n2 : Nat) (b2_l2 : Int32) (b2_c_p1 : Nat → Int32), rk_it2 (fX1_layOutLetters_L2 f_this_zeros f_this_ones f_this_twos f_this_threes) n2 b2_l2 b2_c_p1 = some r0 → ∀ (H : Heap) (locs : List Loc), va_P D vwCl [(a_p1, .inl (cI, 4, .inl b2_c_p1))] H → va_D A [(a_p1, .inl (cI, 4, .inl b2_c_p1))] → va_S A s.heap H locs → ∀ (ls : Array Slot), lv_has ls 3 [(0, .ref a_this), (1, .ref a_p1), (2, .int b2_l2)] → W p l e rmX1_layOutLetters s m args below meth c H locs 0 0 Q (F0 m 2 ls []) := by
    intro n2
    induction n2 with
    | zero => intro b2_l2 b2_c_p1 h; exact rk_no h
    | succ n2 ih2 =>
      intro b2_l2 b2_c_p1 h H locs hP hD hS ls hl
      have h : fX1_layOutLetters_L2 f_this_zeros f_this_ones f_this_twos f_this_threes (rk_it2 (fX1_layOutLetters_L2 f_this_zeros f_this_ones f_this_twos f_this_threes) n2) b2_l2 b2_c_p1 = some r0 := h
      unfold fX1_layOutLetters_L2 at h
      have hR := rk_keep hR0 hn hS
      refine lv_iload_n hx hb dX1_layOutLetters_2 rfl (lv_at hl 2 rfl) ?_
      refine lv_iconst (v := 4) hx hb dX1_layOutLetters_3 (by decide) ?_
      refine lv_icmp_ge (tgt := 23) hx hb dX1_layOutLetters_4 (by decide) (fun hc1 => ?_) (fun hc1 => ?_)
      · have h := rk_if hc1 h
        exact hret b2_c_p1 _ _ _ _ h dX1_layOutLetters_23 hP hD hS
      · have h := rk_nif hc1 h
        refine lv_aload_n hx hb dX1_layOutLetters_7 rfl (lv_at hl 1 rfl) ?_
        refine lv_iload_n hx hb dX1_layOutLetters_8 rfl (lv_at hl 2 rfl) ?_
        refine lv_aload_n hx hb dX1_layOutLetters_9 rfl (lv_at hl 0 rfl) ?_
        refine lv_iload_n hx hb dX1_layOutLetters_10 rfl (lv_at hl 2 rfl) ?_
        obtain ⟨r_11, hc_11, h⟩ := rk_bd h
        refine rk_i (wr := [(a_p1, .inl (cI, 4, .inl b2_c_p1))]) (va_runV (C := RX1) (As := [.int b2_l2]) (rest := [.int b2_l2, .ref a_p1]) hF (mtX1_setting l D cI cJ cO PL _ a_this f_this_number f_this_width f_this_size f_this_zeros f_this_ones f_this_twos f_this_threes b2_l2 r_11 hc_11) (cwV 1 htc (rk_gV w_1_191 w_1_192 w_1_193 w_1_8 w_1_194) rfl rfl rfl (by decide +kernel) ⟨(Nat.le_of_ble_eq_true rfl), (Nat.le_of_ble_eq_true rfl)⟩) (rk_preV (va_recv hV.1 hR (ci := 1) (q0 := 0) rfl rfl) (rk_preS hP hD hS hR hn hPL hnl hV [] [(false, 0)] rfl (by decide) rfl (by decide))) rfl rfl hl.1 rfl (lv_room (Nat.le_of_ble_eq_true rfl)) dX1_layOutLetters_11 ⟨(Nat.le_of_ble_eq_true rfl), (Nat.le_of_ble_eq_true rfl)⟩) hP hD hS hA hR0 hn [] [0] rfl rfl (by decide) (by decide) (fun H locs hP hD hS hR => ?_)
        have hP : va_P D vwCl [(a_p1, .inl (cI, 4, .inl b2_c_p1))] H := hP
        have hD : va_D A [(a_p1, .inl (cI, 4, .inl b2_c_p1))] := hD
        obtain ⟨r_14, hc_14, h⟩ := rk_bd h
        refine rk_v (wr := []) (va_runSN (As := [.ref a_p1, .int b2_l2, .int r_11]) (rest := []) hF (mtX9_set l D cI cJ cO PL _ a_p1 4 b2_c_p1 b2_l2 r_11 r_14 hc_14) ⟨va_cnB 3 htc (rk_gw w_1_46) rfl rfl rfl (hV.2.1 _ nw_1_195) (htc _ w_1_1) (by decide +kernel) ⟨(Nat.le_of_ble_eq_true rfl), (Nat.le_of_ble_eq_true rfl)⟩, htc _ w_1_45, trivial⟩ (rk_preS hP hD hS hR hn hPL hnl hV [0] [] rfl (by decide) rfl (by decide)) rfl rfl hl.1 rfl (lv_room (Nat.le_of_ble_eq_true rfl)) dX1_layOutLetters_14 ⟨(Nat.le_of_ble_eq_true rfl), (Nat.le_of_ble_eq_true rfl)⟩) hP hD hS hA hR0 hn [0] [] rfl rfl (by decide) (by decide) (fun H locs hP hD hS hR => ?_)
        have hP : va_P D vwCl [(a_p1, .inl (cI, 4, .inl r_14))] H := hP
        have hD : va_D A [(a_p1, .inl (cI, 4, .inl r_14))] := hD
        refine lv_iinc (v := (b2_l2 + 1)) (lv' := [(2, .int (b2_l2 + 1)), (0, .ref a_this), (1, .ref a_p1)]) hx hb dX1_layOutLetters_17 hl (k := 2) rfl rfl (by decide) rfl (fun ls hl => ?_)
        refine lv_goto (tgt := 2) hx hb dX1_layOutLetters_20 (by decide) ?_
        exact ih2 (b2_l2 + 1) r_14 h _ _ hP hD hS _ (lv_sub hl [1, 2, 0] rfl)
  exact L2 FU (0 : Int32) c_p1 h _ _ hP hD hS _ (lv_sub hl [1, 2, 0] rfl)
set_option maxHeartbeats 4000000 in
set_option maxRecDepth 100000 in
theorem mtX9_at (l : Launch) (D : va_G) (cI cJ cO : ClassId) (PL : va_W) (sz : Nat) (a_p0 : Nat) (n_p0 : Nat) (c_p0 : Nat → Int32) (v_p1 : Int32) (r0 : Int32) (h : fX9_at n_p0 c_p0 v_p1 = some r0) : Met l yX9_at (rk_w yX9_at cX9_at 2 (some .int)) rmX9_at (va_Pc [.ref a_p0, .int v_p1] (rk_B D (rk_TY cI cJ cO) [] [(a_p0, .inl (cI, n_p0, .inl c_p0))] PL sz)) (rk_Qi r0 D [] [] sz) 0 0 (va_A [] sz) := by
  refine rk_meti h (fun x : Int32 => x) (fun x => []) (by decide) (Nat.le_of_ble_eq_true rfl) ?_
  intro p e s m args below meth c A ls Q hret hname hF hP hD hA hV hR0 hn hPL hnl hl h hS
  have hx := hF.1
  have hb := hF.2.1
  have hml := hF.2.2.1
  have hown : s.vm.findClass RX9 = some m.cls := hF.2.2.2.1
  have htc := hF.2.2.2.2
  have hP : va_P D vwCl [] s.heap := hP
  have hD : va_D A [] := hD
  have hR0 : va_P D vwCl [(a_p0, .inl (cI, n_p0, .inl c_p0))] s.heap := hR0
  have hR := hR0
  have hl : lv_has ls 2 [(0, .ref a_p0), (1, .int v_p1)] := hl
  unfold fX9_at at h
  refine lv_iload_n hx hb dX9_at_0 rfl (lv_at hl 1 rfl) ?_
  have B16 : fX9_at_B16 = some r0 → ∀ (H : Heap) (locs : List Loc), va_P D vwCl [] H → va_D A [] → va_S A s.heap H locs → ∀ (ls : Array Slot), lv_has ls 2 [] → W p l e rmX9_at s m args below meth c H locs 0 0 Q (F0 m 16 ls []) := by
    intro  h H locs hP hD hS ls hl
    unfold fX9_at_B16 at h
    have hR := rk_keep hR0 hn hS
    refine lv_iconst (v := 0) hx hb dX9_at_16 (by decide) ?_
    exact hret (0 : Int32) _ _ _ _ h dX9_at_17 hP hD hS
  refine lv_if_lt (tgt := 16) hx hb dX9_at_1 (by decide) (fun hc1 => ?_) (fun hc1 => ?_)
  · have h := rk_if hc1 h
    exact B16  h _ _ hP hD hS _ (lv_sub hl [] rfl)
  · have h := rk_nif hc1 h
    refine lv_iload_n hx hb dX9_at_4 rfl (lv_at hl 1 rfl) ?_
    refine lv_aload_n hx hb dX9_at_5 rfl (lv_at hl 0 rfl) ?_
    refine va_alen hx hb hV.1 hR 0 0 rfl rfl rfl dX9_at_6 ?_
    refine lv_icmp_ge (tgt := 16) hx hb dX9_at_7 (by decide) (fun hc2 => ?_) (fun hc2 => ?_)
    · have h := rk_if hc2 h
      exact B16  h _ _ hP hD hS _ (lv_sub hl [] rfl)
    · have h := rk_nif hc2 h
      refine lv_aload_n hx hb dX9_at_10 rfl (lv_at hl 0 rfl) ?_
      refine lv_iload_n hx hb dX9_at_11 rfl (lv_at hl 1 rfl) ?_
      obtain ⟨hg3, h⟩ := rk_gd h
      refine va_iald hx hb hV.1 hR 0 0 rfl rfl hg3 dX9_at_12 ?_
      refine lv_goto (tgt := 17) hx hb dX9_at_13 (by decide) ?_
      exact hret (c_p0 v_p1.toNatClampNeg) _ _ _ _ h dX9_at_17 hP hD hS
set_option maxHeartbeats 4000000 in
set_option maxRecDepth 100000 in
theorem mtX1_change (l : Launch) (D : va_G) (cI cJ cO : ClassId) (PL : va_W) (sz : Nat) (a_p0 : Nat) (c_p0 : Nat → Int32) (v_p1 : Int32) (v_p2 : Int32) (r0 : (Nat → Int32)) (h : fX1_change c_p0 v_p1 v_p2 = some r0) : Met l yX1_change (rk_w yX1_change cX1_change 3 none) rmX1_change (va_Pc [.ref a_p0, .int v_p1, .int v_p2] (rk_B D (rk_TY cI cJ cO) [(a_p0, .inl (cI, 4, .inl c_p0))] [] PL sz)) (rk_Qv D [(a_p0, .inl (cI, 4, .inl r0))] [(a_p0, .inl (cI, 4, .inl c_p0))] sz) 0 0 (va_A [(a_p0, .inl (cI, 4, .inl c_p0))] sz) := by
  refine rk_metv h (fun x => [(a_p0, .inl (cI, 4, .inl x))]) (by decide) (Nat.le_of_ble_eq_true rfl) ?_
  intro p e s m args below meth c A ls Q hret hname hF hP hD hA hV hR0 hn hPL hnl hl h hS
  have hx := hF.1
  have hb := hF.2.1
  have hml := hF.2.2.1
  have hown : s.vm.findClass RX1 = some m.cls := hF.2.2.2.1
  have htc := hF.2.2.2.2
  have hP : va_P D vwCl [(a_p0, .inl (cI, 4, .inl c_p0))] s.heap := hP
  have hD : va_D A [(a_p0, .inl (cI, 4, .inl c_p0))] := hD
  have hR0 : va_P D vwCl [] s.heap := hR0
  have hR := hR0
  have hl : lv_has ls 3 [(0, .ref a_p0), (1, .int v_p1), (2, .int v_p2)] := hl
  unfold fX1_change at h
  refine lv_aload_n hx hb dX1_change_0 rfl (lv_at hl 0 rfl) ?_
  refine lv_iload_n hx hb dX1_change_1 rfl (lv_at hl 1 rfl) ?_
  refine lv_aload_n hx hb dX1_change_2 rfl (lv_at hl 0 rfl) ?_
  refine lv_iload_n hx hb dX1_change_3 rfl (lv_at hl 1 rfl) ?_
  obtain ⟨r_4, hc_4, h⟩ := rk_bd h
  refine rk_i (wr := [(a_p0, .inl (cI, 4, .inl c_p0))]) (va_runSN (As := [.ref a_p0, .int v_p1]) (rest := [.int v_p1, .ref a_p0]) hF (mtX9_at l D cI cJ cO PL _ a_p0 4 c_p0 v_p1 r_4 hc_4) ⟨va_cnB 2 htc (rk_gw w_1_52) rfl rfl rfl (hV.2.1 _ nw_1_199) (htc _ w_1_1) (by decide +kernel) ⟨(Nat.le_of_ble_eq_true rfl), (Nat.le_of_ble_eq_true rfl)⟩, htc _ w_1_51, trivial⟩ (rk_preS hP hD hS rk_nilP hn hPL hnl hV [] [(true, 0)] rfl (by decide) rfl (by decide)) rfl rfl hl.1 rfl (lv_room (Nat.le_of_ble_eq_true rfl)) dX1_change_4 ⟨(Nat.le_of_ble_eq_true rfl), (Nat.le_of_ble_eq_true rfl)⟩) hP hD hS hA hR0 hn [] [0] rfl rfl (by decide) (by decide) (fun H locs hP hD hS hR => ?_)
  have hP : va_P D vwCl [(a_p0, .inl (cI, 4, .inl c_p0))] H := hP
  have hD : va_D A [(a_p0, .inl (cI, 4, .inl c_p0))] := hD
  refine lv_iload_n hx hb dX1_change_7 rfl (lv_at hl 2 rfl) ?_
  refine lv_iadd hx hb dX1_change_8 ?_
  obtain ⟨r_9, hc_9, h⟩ := rk_bd h
  refine rk_v (wr := []) (va_runSN (As := [.ref a_p0, .int v_p1, .int (r_4 + v_p2)]) (rest := []) hF (mtX9_set l D cI cJ cO PL _ a_p0 4 c_p0 v_p1 (r_4 + v_p2) r_9 hc_9) ⟨va_cnB 3 htc (rk_gw w_1_46) rfl rfl rfl (hV.2.1 _ nw_1_195) (htc _ w_1_1) (by decide +kernel) ⟨(Nat.le_of_ble_eq_true rfl), (Nat.le_of_ble_eq_true rfl)⟩, htc _ w_1_45, trivial⟩ (rk_preS hP hD hS rk_nilP hn hPL hnl hV [0] [] rfl (by decide) rfl (by decide)) rfl rfl hl.1 rfl (lv_room (Nat.le_of_ble_eq_true rfl)) dX1_change_9 ⟨(Nat.le_of_ble_eq_true rfl), (Nat.le_of_ble_eq_true rfl)⟩) hP hD hS hA hR0 hn [0] [] rfl rfl (by decide) (by decide) (fun H locs hP hD hS hR => ?_)
  have hP : va_P D vwCl [(a_p0, .inl (cI, 4, .inl r_9))] H := hP
  have hD : va_D A [(a_p0, .inl (cI, 4, .inl r_9))] := hD
  exact hret r_9 _ _ _ _ h dX1_change_12 hP hD hS
set_option maxHeartbeats 4000000 in
set_option maxRecDepth 100000 in
theorem mtX1_accepts (l : Launch) (D : va_G) (cI cJ cO : ClassId) (PL : va_W) (sz : Nat) (a_this : Nat) (f_this_number : Int32) (f_this_width : Int32) (f_this_size : Int64) (f_this_zeros : Int32) (f_this_ones : Int32) (f_this_twos : Int32) (f_this_threes : Int32) (a_p1 : Nat) (c_p1 : Nat → Int32) (a_p2 : Nat) (a_p2_binomials : Nat) (a_p2_partitionCounts : Nat) (a_p2_treeCounts : Nat) (a_p2_sizes : Nat) (a_p2_starts : Nat) (a_p2_ranks : Nat) (a_p2_letters : Nat) (c_p2_letters : Nat → Int32) (c_p2_sizes : Nat → Int32) (r0 : Int32 × (Nat → Int32) × (Nat → Int32)) (h : fX1_accepts f_this_width f_this_zeros f_this_ones f_this_twos f_this_threes c_p1 c_p2_letters c_p2_sizes = some r0) : Met l yX1_accepts (rk_w yX1_accepts cX1_accepts 5 (some .boolean)) rmX1_accepts (va_Pc [.ref a_this, .ref a_p1, .ref a_p2] (rk_B D (rk_TY cI cJ cO) [(a_p2_letters, .inl (cI, 4, .inl c_p2_letters)), (a_p2_sizes, .inl (cI, 60, .inl c_p2_sizes))] [(a_this, .inr (1, [.int f_this_number, .int f_this_width, .long f_this_size, .int f_this_zeros, .int f_this_ones, .int f_this_twos, .int f_this_threes])), (a_p1, .inl (cI, 60, .inl c_p1)), (a_p2, .inr (2, [.ref a_p2_binomials, .ref a_p2_partitionCounts, .ref a_p2_treeCounts, .ref a_p2_sizes, .ref a_p2_starts, .ref a_p2_ranks, .ref a_p2_letters]))] PL sz)) (rk_Qi r0.1 D [(a_p2_letters, .inl (cI, 4, .inl r0.2.1)), (a_p2_sizes, .inl (cI, 60, .inl r0.2.2))] [(a_p2_letters, .inl (cI, 4, .inl c_p2_letters)), (a_p2_sizes, .inl (cI, 60, .inl c_p2_sizes))] sz) 0 0 (va_A [(a_p2_letters, .inl (cI, 4, .inl c_p2_letters)), (a_p2_sizes, .inl (cI, 60, .inl c_p2_sizes))] sz) := by
  refine rk_metz h (fun x : Int32 × (Nat → Int32) × (Nat → Int32) => x.1) (fun x => [(a_p2_letters, .inl (cI, 4, .inl x.2.1)), (a_p2_sizes, .inl (cI, 60, .inl x.2.2))]) (by decide) (Nat.le_of_ble_eq_true rfl) ?_
  intro p e s m args below meth c A ls Q hret hname hF hP hD hA hV hR0 hn hPL hnl hl h hS
  have hx := hF.1
  have hb := hF.2.1
  have hml := hF.2.2.1
  have hown : s.vm.findClass RX1 = some m.cls := hF.2.2.2.1
  have htc := hF.2.2.2.2
  have hP : va_P D vwCl [(a_p2_letters, .inl (cI, 4, .inl c_p2_letters)), (a_p2_sizes, .inl (cI, 60, .inl c_p2_sizes))] s.heap := hP
  have hD : va_D A [(a_p2_letters, .inl (cI, 4, .inl c_p2_letters)), (a_p2_sizes, .inl (cI, 60, .inl c_p2_sizes))] := hD
  have hR0 : va_P D vwCl [(a_this, .inr (1, [.int f_this_number, .int f_this_width, .long f_this_size, .int f_this_zeros, .int f_this_ones, .int f_this_twos, .int f_this_threes])), (a_p1, .inl (cI, 60, .inl c_p1)), (a_p2, .inr (2, [.ref a_p2_binomials, .ref a_p2_partitionCounts, .ref a_p2_treeCounts, .ref a_p2_sizes, .ref a_p2_starts, .ref a_p2_ranks, .ref a_p2_letters]))] s.heap := hR0
  have hR := hR0
  have hl : lv_has ls 5 [(0, .ref a_this), (1, .ref a_p1), (2, .ref a_p2)] := hl
  unfold fX1_accepts at h
  refine lv_aload_n hx hb dX1_accepts_0 rfl (lv_at hl 0 rfl) ?_
  refine lv_aload_n hx hb dX1_accepts_1 rfl (lv_at hl 2 rfl) ?_
  refine va_getN (D := D) (ci := 2) (v := .ref a_p2_letters) (C := RX2) (T := TX2) (N := 7) hx hb htc inX2 hown hV.1 hR 2 rfl rfl 6 (by decide) (va_Nw.use rfl (hV.2.1 _ nw_1_67)) (fun _ h9 => h9) rfl dX1_accepts_2 ?_
  obtain ⟨r_5, hc_5, h⟩ := rk_bd h
  refine rk_v (wr := [(a_p2_sizes, .inl (cI, 60, .inl c_p2_sizes))]) (va_runV (C := RX1) (As := [.ref a_p2_letters]) (rest := []) hF (mtX1_layOutLetters l D cI cJ cO PL _ a_p2_letters c_p2_letters a_this f_this_number f_this_width f_this_size f_this_zeros f_this_ones f_this_twos f_this_threes r_5 hc_5) (cwV 1 htc (rk_gV w_1_186 w_1_188 ws_2 w_1_8 w_1_190) rfl rfl rfl (by decide +kernel) ⟨(Nat.le_of_ble_eq_true rfl), (Nat.le_of_ble_eq_true rfl)⟩) (rk_preV (va_recv hV.1 hR (ci := 1) (q0 := 0) rfl rfl) (rk_preS hP hD hS hR hn hPL hnl hV [0] [(false, 0)] rfl (by decide) rfl (by decide))) rfl rfl hl.1 rfl (lv_room (Nat.le_of_ble_eq_true rfl)) dX1_accepts_5 ⟨(Nat.le_of_ble_eq_true rfl), (Nat.le_of_ble_eq_true rfl)⟩) hP hD hS hA hR0 hn [0] [1] rfl rfl (by decide) (by decide) (fun H locs hP hD hS hR => ?_)
  have hP : va_P D vwCl [(a_p2_sizes, .inl (cI, 60, .inl c_p2_sizes)), (a_p2_letters, .inl (cI, 4, .inl r_5))] H := hP
  have hD : va_D A [(a_p2_sizes, .inl (cI, 60, .inl c_p2_sizes)), (a_p2_letters, .inl (cI, 4, .inl r_5))] := hD
  refine lv_iconst (v := 0) hx hb dX1_accepts_8 (by decide) ?_
  refine lv_istore_n (lv' := [(3, .int (0 : Int32)), (0, .ref a_this), (1, .ref a_p1), (2, .ref a_p2)]) hx hb dX1_accepts_9 rfl hl (by decide) rfl (fun ls hl => ?_)
  have L10 : ∀ (n10 : Nat) (b10_l3 : Int32) (b10_c_p2_letters : Nat → Int32), rk_it2 (fX1_accepts_L10 f_this_width c_p1 c_p2_sizes) n10 b10_l3 b10_c_p2_letters = some r0 → ∀ (H : Heap) (locs : List Loc), va_P D vwCl [(a_p2_sizes, .inl (cI, 60, .inl c_p2_sizes)), (a_p2_letters, .inl (cI, 4, .inl b10_c_p2_letters))] H → va_D A [(a_p2_sizes, .inl (cI, 60, .inl c_p2_sizes)), (a_p2_letters, .inl (cI, 4, .inl b10_c_p2_letters))] → va_S A s.heap H locs → ∀ (ls : Array Slot), lv_has ls 5 [(0, .ref a_this), (1, .ref a_p1), (2, .ref a_p2), (3, .int b10_l3)] → W p l e rmX1_accepts s m args below meth c H locs 0 0 Q (F0 m 10 ls []) := by
    intro n10
    induction n10 with
    | zero => intro b10_l3 b10_c_p2_letters h; exact rk_no h
    | succ n10 ih10 =>
      intro b10_l3 b10_c_p2_letters h H locs hP hD hS ls hl
      have h : fX1_accepts_L10 f_this_width c_p1 c_p2_sizes (rk_it2 (fX1_accepts_L10 f_this_width c_p1 c_p2_sizes) n10) b10_l3 b10_c_p2_letters = some r0 := h
      unfold fX1_accepts_L10 at h
      have hR := rk_keep hR0 hn hS
      refine lv_iload_n hx hb dX1_accepts_10 rfl (lv_at hl 3 rfl) ?_
      refine lv_aload_n hx hb dX1_accepts_11 rfl (lv_at hl 0 rfl) ?_
      refine va_get (D := D) (ci := 1) (v := .int f_this_width) (C := RX1) (T := TX1) (N := 7) hx hb htc inX1 hown hV.1 hR 0 rfl rfl 1 (by decide) (htc _ w_1_131) (fun _ h9 => u_same (htc _ w_1_132) _ h9) rfl dX1_accepts_12 ?_
      refine lv_icmp_ge (tgt := 67) hx hb dX1_accepts_15 (by decide) (fun hc1 => ?_) (fun hc1 => ?_)
      · have h := rk_if hc1 h
        refine lv_iconst (v := 1) hx hb dX1_accepts_67 (by decide) ?_
        exact hret ((1 : Int32), b10_c_p2_letters, c_p2_sizes) _ _ _ _ h rk_nb1 dX1_accepts_68 (hP.sub [1, 0] rfl) (hD.sub [1, 0] (by decide) rfl) hS
      · have h := rk_nif hc1 h
        refine lv_aload_n hx hb dX1_accepts_18 rfl (lv_at hl 1 rfl) ?_
        refine lv_iload_n hx hb dX1_accepts_19 rfl (lv_at hl 3 rfl) ?_
        obtain ⟨r_20, hc_20, h⟩ := rk_bd h
        refine rk_i (wr := [(a_p2_sizes, .inl (cI, 60, .inl c_p2_sizes)), (a_p2_letters, .inl (cI, 4, .inl b10_c_p2_letters))]) (va_runSN (As := [.ref a_p1, .int b10_l3]) (rest := []) hF (mtX9_at l D cI cJ cO PL _ a_p1 60 c_p1 b10_l3 r_20 hc_20) ⟨va_cnB 2 htc (rk_gw w_1_52) rfl rfl rfl (hV.2.1 _ nw_1_199) (htc _ w_1_1) (by decide +kernel) ⟨(Nat.le_of_ble_eq_true rfl), (Nat.le_of_ble_eq_true rfl)⟩, htc _ w_1_51, trivial⟩ (rk_preS hP hD hS hR hn hPL hnl hV [] [(false, 1)] rfl (by decide) rfl (by decide)) rfl rfl hl.1 rfl (lv_room (Nat.le_of_ble_eq_true rfl)) dX1_accepts_20 ⟨(Nat.le_of_ble_eq_true rfl), (Nat.le_of_ble_eq_true rfl)⟩) hP hD hS hA hR0 hn [] [0, 1] rfl rfl (by decide) (by decide) (fun H locs hP hD hS hR => ?_)
        have hP : va_P D vwCl [(a_p2_sizes, .inl (cI, 60, .inl c_p2_sizes)), (a_p2_letters, .inl (cI, 4, .inl b10_c_p2_letters))] H := hP
        have hD : va_D A [(a_p2_sizes, .inl (cI, 60, .inl c_p2_sizes)), (a_p2_letters, .inl (cI, 4, .inl b10_c_p2_letters))] := hD
        refine lv_istore (lv' := [(4, .int r_20), (0, .ref a_this), (1, .ref a_p1), (2, .ref a_p2), (3, .int b10_l3)]) hx hb dX1_accepts_23 hl (by decide) rfl (fun ls hl => ?_)
        refine lv_iload hx hb dX1_accepts_25 (lv_at hl 0 rfl) ?_
        refine lv_if_lt (tgt := 49) hx hb dX1_accepts_27 (by decide) (fun hc2 => ?_) (fun hc2 => ?_)
        · have h := rk_if hc2 h
          refine lv_iconst (v := 0) hx hb dX1_accepts_49 (by decide) ?_
          exact hret ((0 : Int32), b10_c_p2_letters, c_p2_sizes) _ _ _ _ h rk_nb0 dX1_accepts_50 (hP.sub [1, 0] rfl) (hD.sub [1, 0] (by decide) rfl) hS
        · have h := rk_nif hc2 h
          refine lv_iload hx hb dX1_accepts_30 (lv_at hl 0 rfl) ?_
          refine lv_iconst (v := 4) hx hb dX1_accepts_32 (by decide) ?_
          refine lv_icmp_ge (tgt := 49) hx hb dX1_accepts_33 (by decide) (fun hc3 => ?_) (fun hc3 => ?_)
          · have h := rk_if hc3 h
            refine lv_iconst (v := 0) hx hb dX1_accepts_49 (by decide) ?_
            exact hret ((0 : Int32), b10_c_p2_letters, c_p2_sizes) _ _ _ _ h rk_nb0 dX1_accepts_50 (hP.sub [1, 0] rfl) (hD.sub [1, 0] (by decide) rfl) hS
          · have h := rk_nif hc3 h
            refine lv_aload_n hx hb dX1_accepts_36 rfl (lv_at hl 3 rfl) ?_
            refine va_getN (D := D) (ci := 2) (v := .ref a_p2_letters) (C := RX2) (T := TX2) (N := 7) hx hb htc inX2 hown hV.1 hR 2 rfl rfl 6 (by decide) (va_Nw.use rfl (hV.2.1 _ nw_1_67)) (fun _ h9 => h9) rfl dX1_accepts_37 ?_
            refine lv_iload hx hb dX1_accepts_40 (lv_at hl 0 rfl) ?_
            obtain ⟨r_42, hc_42, h⟩ := rk_bd h
            refine rk_i (wr := [(a_p2_sizes, .inl (cI, 60, .inl c_p2_sizes)), (a_p2_letters, .inl (cI, 4, .inl b10_c_p2_letters))]) (va_runSN (As := [.ref a_p2_letters, .int r_20]) (rest := []) hF (mtX9_at l D cI cJ cO PL _ a_p2_letters 4 b10_c_p2_letters r_20 r_42 hc_42) ⟨va_cnB 2 htc (rk_gw w_1_52) rfl rfl rfl (hV.2.1 _ nw_1_199) (htc _ w_1_1) (by decide +kernel) ⟨(Nat.le_of_ble_eq_true rfl), (Nat.le_of_ble_eq_true rfl)⟩, htc _ w_1_51, trivial⟩ (rk_preS hP hD hS hR hn hPL hnl hV [] [(true, 1)] rfl (by decide) rfl (by decide)) rfl rfl hl.1 rfl (lv_room (Nat.le_of_ble_eq_true rfl)) dX1_accepts_42 ⟨(Nat.le_of_ble_eq_true rfl), (Nat.le_of_ble_eq_true rfl)⟩) hP hD hS hA hR0 hn [] [0, 1] rfl rfl (by decide) (by decide) (fun H locs hP hD hS hR => ?_)
            have hP : va_P D vwCl [(a_p2_sizes, .inl (cI, 60, .inl c_p2_sizes)), (a_p2_letters, .inl (cI, 4, .inl b10_c_p2_letters))] H := hP
            have hD : va_D A [(a_p2_sizes, .inl (cI, 60, .inl c_p2_sizes)), (a_p2_letters, .inl (cI, 4, .inl b10_c_p2_letters))] := hD
            refine lv_iconst (v := 1) hx hb dX1_accepts_45 (by decide) ?_
            refine lv_icmp_ge (tgt := 51) hx hb dX1_accepts_46 (by decide) (fun hc4 => ?_) (fun hc4 => ?_)
            · have h := rk_if hc4 h
              refine lv_aload_n hx hb dX1_accepts_51 rfl (lv_at hl 3 rfl) ?_
              refine va_getN (D := D) (ci := 2) (v := .ref a_p2_letters) (C := RX2) (T := TX2) (N := 7) hx hb htc inX2 hown hV.1 hR 2 rfl rfl 6 (by decide) (va_Nw.use rfl (hV.2.1 _ nw_1_67)) (fun _ h9 => h9) rfl dX1_accepts_52 ?_
              refine lv_iload hx hb dX1_accepts_55 (lv_at hl 0 rfl) ?_
              refine lv_iconst (v := (-1)) hx hb dX1_accepts_57 (by decide) ?_
              obtain ⟨r_58, hc_58, h⟩ := rk_bd h
              refine rk_v (wr := [(a_p2_sizes, .inl (cI, 60, .inl c_p2_sizes))]) (va_runS (As := [.ref a_p2_letters, .int r_20, .int (-1 : Int32)]) (rest := []) hF (mtX1_change l D cI cJ cO PL _ a_p2_letters b10_c_p2_letters r_20 (-1 : Int32) r_58 hc_58) (va_cwS 3 htc (rk_gVS w_1_200 w_1_201 w_1_8 w_1_202) rfl rfl rfl (by decide +kernel) ⟨(Nat.le_of_ble_eq_true rfl), (Nat.le_of_ble_eq_true rfl)⟩) (rk_preS hP hD hS hR hn hPL hnl hV [1] [] rfl (by decide) rfl (by decide)) rfl rfl hl.1 rfl (lv_room (Nat.le_of_ble_eq_true rfl)) dX1_accepts_58 ⟨(Nat.le_of_ble_eq_true rfl), (Nat.le_of_ble_eq_true rfl)⟩) hP hD hS hA hR0 hn [1] [0] rfl rfl (by decide) (by decide) (fun H locs hP hD hS hR => ?_)
              have hP : va_P D vwCl [(a_p2_sizes, .inl (cI, 60, .inl c_p2_sizes)), (a_p2_letters, .inl (cI, 4, .inl r_58))] H := hP
              have hD : va_D A [(a_p2_sizes, .inl (cI, 60, .inl c_p2_sizes)), (a_p2_letters, .inl (cI, 4, .inl r_58))] := hD
              refine lv_iinc (v := (b10_l3 + 1)) (lv' := [(3, .int (b10_l3 + 1)), (4, .int r_20), (0, .ref a_this), (1, .ref a_p1), (2, .ref a_p2)]) hx hb dX1_accepts_61 hl (k := 4) rfl rfl (by decide) rfl (fun ls hl => ?_)
              refine lv_goto (tgt := 10) hx hb dX1_accepts_64 (by decide) ?_
              exact ih10 (b10_l3 + 1) r_58 h _ _ hP hD hS _ (lv_sub hl [2, 3, 4, 0] rfl)
            · have h := rk_nif hc4 h
              refine lv_iconst (v := 0) hx hb dX1_accepts_49 (by decide) ?_
              exact hret ((0 : Int32), b10_c_p2_letters, c_p2_sizes) _ _ _ _ h rk_nb0 dX1_accepts_50 (hP.sub [1, 0] rfl) (hD.sub [1, 0] (by decide) rfl) hS
  exact L10 FU (0 : Int32) r_5 h _ _ hP hD hS _ (lv_sub hl [1, 2, 3, 0] rfl)
set_option maxHeartbeats 4000000 in
set_option maxRecDepth 100000 in
theorem mtX2_spot (l : Launch) (D : va_G) (cI cJ cO : ClassId) (PL : va_W) (sz : Nat) (v_p0 : Int32) (v_p1 : Int32) (r0 : Int32) (h : fX2_spot v_p0 v_p1 = some r0) : Met l yX2_spot (rk_w yX2_spot cX2_spot 2 (some .int)) rmX2_spot (va_Pc [.int v_p0, .int v_p1] (rk_B D (rk_TY cI cJ cO) [] [] PL sz)) (rk_Qi r0 D [] [] sz) 0 0 (va_A [] sz) := by
  refine rk_meti h (fun x : Int32 => x) (fun x => []) (by decide) (Nat.le_of_ble_eq_true rfl) ?_
  intro p e s m args below meth c A ls Q hret hname hF hP hD hA hV hR0 hn hPL hnl hl h hS
  have hx := hF.1
  have hb := hF.2.1
  have hml := hF.2.2.1
  have hown : s.vm.findClass RX2 = some m.cls := hF.2.2.2.1
  have htc := hF.2.2.2.2
  have hP : va_P D vwCl [] s.heap := hP
  have hD : va_D A [] := hD
  have hR0 : va_P D vwCl [] s.heap := hR0
  have hR := hR0
  have hl : lv_has ls 2 [(0, .int v_p0), (1, .int v_p1)] := hl
  unfold fX2_spot at h
  refine lv_iload_n hx hb dX2_spot_0 rfl (lv_at hl 0 rfl) ?_
  refine lv_iload_n hx hb dX2_spot_1 rfl (lv_at hl 0 rfl) ?_
  refine lv_iconst (v := 1) hx hb dX2_spot_2 (by decide) ?_
  refine lv_iadd hx hb dX2_spot_3 ?_
  refine lv_imul hx hb dX2_spot_4 ?_
  refine lv_iconst (v := 2) hx hb dX2_spot_5 (by decide) ?_
  refine lv_idiv hx hb dX2_spot_6 (by decide) ?_
  refine lv_iload_n hx hb dX2_spot_7 rfl (lv_at hl 1 rfl) ?_
  refine lv_iadd hx hb dX2_spot_8 ?_
  exact hret (((v_p0 * (v_p0 + (1 : Int32))) / (2 : Int32)) + v_p1) _ _ _ _ h dX2_spot_9 hP hD hS
set_option maxHeartbeats 4000000 in
set_option maxRecDepth 100000 in
theorem mtX2_binomial (l : Launch) (D : va_G) (cI cJ cO : ClassId) (PL : va_W) (sz : Nat) (a_this : Nat) (a_this_binomials : Nat) (a_this_partitionCounts : Nat) (a_this_treeCounts : Nat) (a_this_sizes : Nat) (a_this_starts : Nat) (a_this_ranks : Nat) (a_this_letters : Nat) (c_this_binomials : Nat → Int64) (v_p1 : Int32) (v_p2 : Int32) (r0 : Int64) (h : fX2_binomial c_this_binomials v_p1 v_p2 = some r0) : Met l yX2_binomial (rk_w yX2_binomial cX2_binomial 3 (some .long)) rmX2_binomial (va_Pc [.ref a_this, .int v_p1, .int v_p2] (rk_B D (rk_TY cI cJ cO) [] [(a_this, .inr (2, [.ref a_this_binomials, .ref a_this_partitionCounts, .ref a_this_treeCounts, .ref a_this_sizes, .ref a_this_starts, .ref a_this_ranks, .ref a_this_letters])), (a_this_binomials, .inl (cJ, 1891, .inr (.inl c_this_binomials)))] PL sz)) (rk_Ql r0 D [] [] sz) 0 0 (va_A [] sz) := by
  refine rk_metl h (fun x : Int64 => x) (fun x => []) (by decide) (Nat.le_of_ble_eq_true rfl) ?_
  intro p e s m args below meth c A ls Q hret hname hF hP hD hA hV hR0 hn hPL hnl hl h hS
  have hx := hF.1
  have hb := hF.2.1
  have hml := hF.2.2.1
  have hown : s.vm.findClass RX2 = some m.cls := hF.2.2.2.1
  have htc := hF.2.2.2.2
  have hP : va_P D vwCl [] s.heap := hP
  have hD : va_D A [] := hD
  have hR0 : va_P D vwCl [(a_this, .inr (2, [.ref a_this_binomials, .ref a_this_partitionCounts, .ref a_this_treeCounts, .ref a_this_sizes, .ref a_this_starts, .ref a_this_ranks, .ref a_this_letters])), (a_this_binomials, .inl (cJ, 1891, .inr (.inl c_this_binomials)))] s.heap := hR0
  have hR := hR0
  have hl : lv_has ls 3 [(0, .ref a_this), (1, .int v_p1), (2, .int v_p2)] := hl
  unfold fX2_binomial at h
  refine lv_iload_n hx hb dX2_binomial_0 rfl (lv_at hl 2 rfl) ?_
  have B15 : fX2_binomial_B15 = some r0 → ∀ (H : Heap) (locs : List Loc), va_P D vwCl [] H → va_D A [] → va_S A s.heap H locs → ∀ (ls : Array Slot), lv_has ls 3 [] → W p l e rmX2_binomial s m args below meth c H locs 0 0 Q (F0 m 15 ls []) := by
    intro  h H locs hP hD hS ls hl
    unfold fX2_binomial_B15 at h
    have hR := rk_keep hR0 hn hS
    refine lv_lconst (v := 0) hx hb dX2_binomial_15 (by decide) ?_
    refine lv_goto (tgt := 31) hx hb dX2_binomial_16 (by decide) ?_
    exact hret (0 : Int64) _ _ _ _ h dX2_binomial_31 hP hD hS
  refine lv_if_lt (tgt := 15) hx hb dX2_binomial_1 (by decide) (fun hc1 => ?_) (fun hc1 => ?_)
  · have h := rk_if hc1 h
    exact B15  h _ _ hP hD hS _ (lv_sub hl [] rfl)
  · have h := rk_nif hc1 h
    refine lv_iload_n hx hb dX2_binomial_4 rfl (lv_at hl 2 rfl) ?_
    refine lv_iload_n hx hb dX2_binomial_5 rfl (lv_at hl 1 rfl) ?_
    refine lv_icmp_gt (tgt := 15) hx hb dX2_binomial_6 (by decide) (fun hc2 => ?_) (fun hc2 => ?_)
    · have h := rk_if hc2 h
      exact B15  h _ _ hP hD hS _ (lv_sub hl [] rfl)
    · have h := rk_nif hc2 h
      refine lv_iload_n hx hb dX2_binomial_9 rfl (lv_at hl 1 rfl) ?_
      refine lv_bipush (v := 60) hx hb dX2_binomial_10 (by decide) ?_
      refine lv_icmp_le (tgt := 19) hx hb dX2_binomial_12 (by decide) (fun hc3 => ?_) (fun hc3 => ?_)
      · have h := rk_if hc3 h
        refine lv_aload_n hx hb dX2_binomial_19 rfl (lv_at hl 0 rfl) ?_
        refine va_get (D := D) (ci := 2) (v := .ref a_this_binomials) (C := RX2) (T := TX2) (N := 7) hx hb htc inX2 hown hV.1 hR 0 rfl rfl 0 (by decide) (htc _ w_1_56) (fun _ h9 => h9) rfl dX2_binomial_20 ?_
        refine lv_iload_n hx hb dX2_binomial_23 rfl (lv_at hl 1 rfl) ?_
        refine lv_iload_n hx hb dX2_binomial_24 rfl (lv_at hl 2 rfl) ?_
        obtain ⟨r_25, hc_25, h⟩ := rk_bd h
        refine rk_i (wr := []) (va_runS (As := [.int v_p1, .int v_p2]) (rest := [.ref a_this_binomials]) hF (mtX2_spot l D cI cJ cO PL _ v_p1 v_p2 r_25 hc_25) (va_cwS 2 htc (rk_gVS w_1_32 w_1_33 w_1_2 w_1_34) rfl rfl rfl (by decide +kernel) ⟨(Nat.le_of_ble_eq_true rfl), (Nat.le_of_ble_eq_true rfl)⟩) (rk_preS hP hD hS hR hn hPL hnl hV [] [] rfl (by decide) rfl (by decide)) rfl rfl hl.1 rfl (lv_room (Nat.le_of_ble_eq_true rfl)) dX2_binomial_25 ⟨(Nat.le_of_ble_eq_true rfl), (Nat.le_of_ble_eq_true rfl)⟩) hP hD hS hA hR0 hn [] [] rfl rfl (by decide) (by decide) (fun H locs hP hD hS hR => ?_)
        have hP : va_P D vwCl [] H := hP
        have hD : va_D A [] := hD
        obtain ⟨r_28, hc_28, h⟩ := rk_bd h
        refine rk_l (wr := []) (va_runSN (As := [.ref a_this_binomials, .int r_25]) (rest := []) hF (mtX9_at_ l D cI cJ cO PL _ a_this_binomials 1891 c_this_binomials r_25 r_28 hc_28) ⟨va_cnB 2 htc (rk_gw w_1_40) rfl rfl rfl (hV.2.1 _ nw_1_38) (htc _ w_1_1) (by decide +kernel) ⟨(Nat.le_of_ble_eq_true rfl), (Nat.le_of_ble_eq_true rfl)⟩, htc _ w_1_39, trivial⟩ (rk_preS hP hD hS hR hn hPL hnl hV [] [(false, 1)] rfl (by decide) rfl (by decide)) rfl rfl hl.1 rfl (lv_room (Nat.le_of_ble_eq_true rfl)) dX2_binomial_28 ⟨(Nat.le_of_ble_eq_true rfl), (Nat.le_of_ble_eq_true rfl)⟩) hP hD hS hA hR0 hn [] [] rfl rfl (by decide) (by decide) (fun H locs hP hD hS hR => ?_)
        have hP : va_P D vwCl [] H := hP
        have hD : va_D A [] := hD
        exact hret r_28 _ _ _ _ h dX2_binomial_31 hP hD hS
      · have h := rk_nif hc3 h
        exact B15  h _ _ hP hD hS _ (lv_sub hl [] rfl)
set_option maxHeartbeats 4000000 in
set_option maxRecDepth 100000 in
theorem mtX2_arrangements (l : Launch) (D : va_G) (cI cJ cO : ClassId) (PL : va_W) (sz : Nat) (a_this : Nat) (a_this_binomials : Nat) (a_this_partitionCounts : Nat) (a_this_treeCounts : Nat) (a_this_sizes : Nat) (a_this_starts : Nat) (a_this_ranks : Nat) (a_this_letters : Nat) (c_this_binomials : Nat → Int64) (v_p1 : Int32) (v_p2 : Int32) (v_p3 : Int32) (v_p4 : Int32) (r0 : Int64) (h : fX2_arrangements c_this_binomials v_p1 v_p2 v_p3 v_p4 = some r0) : Met l yX2_arrangements (rk_w yX2_arrangements cX2_arrangements 5 (some .long)) rmX2_arrangements (va_Pc [.ref a_this, .int v_p1, .int v_p2, .int v_p3, .int v_p4] (rk_B D (rk_TY cI cJ cO) [] [(a_this, .inr (2, [.ref a_this_binomials, .ref a_this_partitionCounts, .ref a_this_treeCounts, .ref a_this_sizes, .ref a_this_starts, .ref a_this_ranks, .ref a_this_letters])), (a_this_binomials, .inl (cJ, 1891, .inr (.inl c_this_binomials)))] PL sz)) (rk_Ql r0 D [] [] sz) 0 0 (va_A [] sz) := by
  refine rk_metl h (fun x : Int64 => x) (fun x => []) (by decide) (Nat.le_of_ble_eq_true rfl) ?_
  intro p e s m args below meth c A ls Q hret hname hF hP hD hA hV hR0 hn hPL hnl hl h hS
  have hx := hF.1
  have hb := hF.2.1
  have hml := hF.2.2.1
  have hown : s.vm.findClass RX2 = some m.cls := hF.2.2.2.1
  have htc := hF.2.2.2.2
  have hP : va_P D vwCl [] s.heap := hP
  have hD : va_D A [] := hD
  have hR0 : va_P D vwCl [(a_this, .inr (2, [.ref a_this_binomials, .ref a_this_partitionCounts, .ref a_this_treeCounts, .ref a_this_sizes, .ref a_this_starts, .ref a_this_ranks, .ref a_this_letters])), (a_this_binomials, .inl (cJ, 1891, .inr (.inl c_this_binomials)))] s.heap := hR0
  have hR := hR0
  have hl : lv_has ls 5 [(0, .ref a_this), (1, .int v_p1), (2, .int v_p2), (3, .int v_p3), (4, .int v_p4)] := hl
  unfold fX2_arrangements at h
  refine lv_aload_n hx hb dX2_arrangements_0 rfl (lv_at hl 0 rfl) ?_
  refine lv_iload_n hx hb dX2_arrangements_1 rfl (lv_at hl 1 rfl) ?_
  refine lv_iload_n hx hb dX2_arrangements_2 rfl (lv_at hl 2 rfl) ?_
  refine lv_iadd hx hb dX2_arrangements_3 ?_
  refine lv_iload_n hx hb dX2_arrangements_4 rfl (lv_at hl 3 rfl) ?_
  refine lv_iadd hx hb dX2_arrangements_5 ?_
  refine lv_iload hx hb dX2_arrangements_6 (lv_at hl 4 rfl) ?_
  refine lv_iadd hx hb dX2_arrangements_8 ?_
  refine lv_iload_n hx hb dX2_arrangements_9 rfl (lv_at hl 1 rfl) ?_
  obtain ⟨r_10, hc_10, h⟩ := rk_bd h
  refine rk_l (wr := []) (va_runV (C := RX2) (As := [.int (((v_p1 + v_p2) + v_p3) + v_p4), .int v_p1]) (rest := []) hF (mtX2_binomial l D cI cJ cO PL _ a_this a_this_binomials a_this_partitionCounts a_this_treeCounts a_this_sizes a_this_starts a_this_ranks a_this_letters c_this_binomials (((v_p1 + v_p2) + v_p3) + v_p4) v_p1 r_10 hc_10) (cwV 2 htc (rk_gV w_1_207 w_1_174 ws_0 w_1_2 w_1_175) rfl rfl rfl (by decide +kernel) ⟨(Nat.le_of_ble_eq_true rfl), (Nat.le_of_ble_eq_true rfl)⟩) (rk_preV (va_recv hV.1 hR (ci := 2) (q0 := 0) rfl rfl) (rk_preS hP hD hS hR hn hPL hnl hV [] [(false, 0), (false, 1)] rfl (by decide) rfl (by decide))) rfl rfl hl.1 rfl (lv_room (Nat.le_of_ble_eq_true rfl)) dX2_arrangements_10 ⟨(Nat.le_of_ble_eq_true rfl), (Nat.le_of_ble_eq_true rfl)⟩) hP hD hS hA hR0 hn [] [] rfl rfl (by decide) (by decide) (fun H locs hP hD hS hR => ?_)
  have hP : va_P D vwCl [] H := hP
  have hD : va_D A [] := hD
  refine lv_aload_n hx hb dX2_arrangements_13 rfl (lv_at hl 0 rfl) ?_
  refine lv_iload_n hx hb dX2_arrangements_14 rfl (lv_at hl 2 rfl) ?_
  refine lv_iload_n hx hb dX2_arrangements_15 rfl (lv_at hl 3 rfl) ?_
  refine lv_iadd hx hb dX2_arrangements_16 ?_
  refine lv_iload hx hb dX2_arrangements_17 (lv_at hl 4 rfl) ?_
  refine lv_iadd hx hb dX2_arrangements_19 ?_
  refine lv_iload_n hx hb dX2_arrangements_20 rfl (lv_at hl 2 rfl) ?_
  obtain ⟨r_21, hc_21, h⟩ := rk_bd h
  refine rk_l (wr := []) (va_runV (C := RX2) (As := [.int ((v_p2 + v_p3) + v_p4), .int v_p2]) (rest := [.long r_10]) hF (mtX2_binomial l D cI cJ cO PL _ a_this a_this_binomials a_this_partitionCounts a_this_treeCounts a_this_sizes a_this_starts a_this_ranks a_this_letters c_this_binomials ((v_p2 + v_p3) + v_p4) v_p2 r_21 hc_21) (cwV 2 htc (rk_gV w_1_207 w_1_174 ws_0 w_1_2 w_1_175) rfl rfl rfl (by decide +kernel) ⟨(Nat.le_of_ble_eq_true rfl), (Nat.le_of_ble_eq_true rfl)⟩) (rk_preV (va_recv hV.1 hR (ci := 2) (q0 := 0) rfl rfl) (rk_preS hP hD hS hR hn hPL hnl hV [] [(false, 0), (false, 1)] rfl (by decide) rfl (by decide))) rfl rfl hl.1 rfl (lv_room (Nat.le_of_ble_eq_true rfl)) dX2_arrangements_21 ⟨(Nat.le_of_ble_eq_true rfl), (Nat.le_of_ble_eq_true rfl)⟩) hP hD hS hA hR0 hn [] [] rfl rfl (by decide) (by decide) (fun H locs hP hD hS hR => ?_)
  have hP : va_P D vwCl [] H := hP
  have hD : va_D A [] := hD
  refine lv_lmul hx hb dX2_arrangements_24 ?_
  refine lv_aload_n hx hb dX2_arrangements_25 rfl (lv_at hl 0 rfl) ?_
  refine lv_iload_n hx hb dX2_arrangements_26 rfl (lv_at hl 3 rfl) ?_
  refine lv_iload hx hb dX2_arrangements_27 (lv_at hl 4 rfl) ?_
  refine lv_iadd hx hb dX2_arrangements_29 ?_
  refine lv_iload_n hx hb dX2_arrangements_30 rfl (lv_at hl 3 rfl) ?_
  obtain ⟨r_31, hc_31, h⟩ := rk_bd h
  refine rk_l (wr := []) (va_runV (C := RX2) (As := [.int (v_p3 + v_p4), .int v_p3]) (rest := [.long (r_10 * r_21)]) hF (mtX2_binomial l D cI cJ cO PL _ a_this a_this_binomials a_this_partitionCounts a_this_treeCounts a_this_sizes a_this_starts a_this_ranks a_this_letters c_this_binomials (v_p3 + v_p4) v_p3 r_31 hc_31) (cwV 2 htc (rk_gV w_1_207 w_1_174 ws_0 w_1_2 w_1_175) rfl rfl rfl (by decide +kernel) ⟨(Nat.le_of_ble_eq_true rfl), (Nat.le_of_ble_eq_true rfl)⟩) (rk_preV (va_recv hV.1 hR (ci := 2) (q0 := 0) rfl rfl) (rk_preS hP hD hS hR hn hPL hnl hV [] [(false, 0), (false, 1)] rfl (by decide) rfl (by decide))) rfl rfl hl.1 rfl (lv_room (Nat.le_of_ble_eq_true rfl)) dX2_arrangements_31 ⟨(Nat.le_of_ble_eq_true rfl), (Nat.le_of_ble_eq_true rfl)⟩) hP hD hS hA hR0 hn [] [] rfl rfl (by decide) (by decide) (fun H locs hP hD hS hR => ?_)
  have hP : va_P D vwCl [] H := hP
  have hD : va_D A [] := hD
  refine lv_lmul hx hb dX2_arrangements_34 ?_
  exact hret ((r_10 * r_21) * r_31) _ _ _ _ h dX2_arrangements_35 hP hD hS
set_option maxHeartbeats 4000000 in
set_option maxRecDepth 100000 in
theorem mtX1_waysAfter (l : Launch) (D : va_G) (cI cJ cO : ClassId) (PL : va_W) (sz : Nat) (a_p1 : Nat) (a_p1_binomials : Nat) (a_p1_partitionCounts : Nat) (a_p1_treeCounts : Nat) (a_p1_sizes : Nat) (a_p1_starts : Nat) (a_p1_ranks : Nat) (a_p1_letters : Nat) (c_p1_letters : Nat → Int32) (c_p1_binomials : Nat → Int64) (v_p0 : Int32) (r0 : Int64 × (Nat → Int32)) (h : fX1_waysAfter c_p1_letters c_p1_binomials v_p0 = some r0) : Met l yX1_waysAfter (rk_w yX1_waysAfter cX1_waysAfter 5 (some .long)) rmX1_waysAfter (va_Pc [.int v_p0, .ref a_p1] (rk_B D (rk_TY cI cJ cO) [(a_p1_letters, .inl (cI, 4, .inl c_p1_letters))] [(a_p1, .inr (2, [.ref a_p1_binomials, .ref a_p1_partitionCounts, .ref a_p1_treeCounts, .ref a_p1_sizes, .ref a_p1_starts, .ref a_p1_ranks, .ref a_p1_letters])), (a_p1_binomials, .inl (cJ, 1891, .inr (.inl c_p1_binomials)))] PL sz)) (rk_Ql r0.1 D [(a_p1_letters, .inl (cI, 4, .inl r0.2))] [(a_p1_letters, .inl (cI, 4, .inl c_p1_letters))] sz) 0 0 (va_A [(a_p1_letters, .inl (cI, 4, .inl c_p1_letters))] sz) := by
  refine rk_metl h (fun x : Int64 × (Nat → Int32) => x.1) (fun x => [(a_p1_letters, .inl (cI, 4, .inl x.2))]) (by decide) (Nat.le_of_ble_eq_true rfl) ?_
  intro p e s m args below meth c A ls Q hret hname hF hP hD hA hV hR0 hn hPL hnl hl h hS
  have hx := hF.1
  have hb := hF.2.1
  have hml := hF.2.2.1
  have hown : s.vm.findClass RX1 = some m.cls := hF.2.2.2.1
  have htc := hF.2.2.2.2
  have hP : va_P D vwCl [(a_p1_letters, .inl (cI, 4, .inl c_p1_letters))] s.heap := hP
  have hD : va_D A [(a_p1_letters, .inl (cI, 4, .inl c_p1_letters))] := hD
  have hR0 : va_P D vwCl [(a_p1, .inr (2, [.ref a_p1_binomials, .ref a_p1_partitionCounts, .ref a_p1_treeCounts, .ref a_p1_sizes, .ref a_p1_starts, .ref a_p1_ranks, .ref a_p1_letters])), (a_p1_binomials, .inl (cJ, 1891, .inr (.inl c_p1_binomials)))] s.heap := hR0
  have hR := hR0
  have hl : lv_has ls 5 [(0, .int v_p0), (1, .ref a_p1)] := hl
  unfold fX1_waysAfter at h
  refine lv_aload_n hx hb dX1_waysAfter_0 rfl (lv_at hl 1 rfl) ?_
  refine va_getN (D := D) (ci := 2) (v := .ref a_p1_letters) (C := RX2) (T := TX2) (N := 7) hx hb htc inX2 hown hV.1 hR 0 rfl rfl 6 (by decide) (va_Nw.use rfl (hV.2.1 _ nw_1_67)) (fun _ h9 => h9) rfl dX1_waysAfter_1 ?_
  refine lv_astore_n (lv' := [(2, .ref a_p1_letters), (0, .int v_p0), (1, .ref a_p1)]) hx hb dX1_waysAfter_4 rfl hl (by decide) rfl (fun ls hl => ?_)
  refine lv_aload_n hx hb dX1_waysAfter_5 rfl (lv_at hl 0 rfl) ?_
  refine lv_iload_n hx hb dX1_waysAfter_6 rfl (lv_at hl 1 rfl) ?_
  obtain ⟨r_7, hc_7, h⟩ := rk_bd h
  refine rk_i (wr := [(a_p1_letters, .inl (cI, 4, .inl c_p1_letters))]) (va_runSN (As := [.ref a_p1_letters, .int v_p0]) (rest := []) hF (mtX9_at l D cI cJ cO PL _ a_p1_letters 4 c_p1_letters v_p0 r_7 hc_7) ⟨va_cnB 2 htc (rk_gw w_1_52) rfl rfl rfl (hV.2.1 _ nw_1_199) (htc _ w_1_1) (by decide +kernel) ⟨(Nat.le_of_ble_eq_true rfl), (Nat.le_of_ble_eq_true rfl)⟩, htc _ w_1_51, trivial⟩ (rk_preS hP hD hS hR hn hPL hnl hV [] [(true, 0)] rfl (by decide) rfl (by decide)) rfl rfl hl.1 rfl (lv_room (Nat.le_of_ble_eq_true rfl)) dX1_waysAfter_7 ⟨(Nat.le_of_ble_eq_true rfl), (Nat.le_of_ble_eq_true rfl)⟩) hP hD hS hA hR0 hn [] [0] rfl rfl (by decide) (by decide) (fun H locs hP hD hS hR => ?_)
  have hP : va_P D vwCl [(a_p1_letters, .inl (cI, 4, .inl c_p1_letters))] H := hP
  have hD : va_D A [(a_p1_letters, .inl (cI, 4, .inl c_p1_letters))] := hD
  refine lv_iconst (v := 1) hx hb dX1_waysAfter_10 (by decide) ?_
  refine lv_icmp_ge (tgt := 16) hx hb dX1_waysAfter_11 (by decide) (fun hc1 => ?_) (fun hc1 => ?_)
  · have h := rk_if hc1 h
    refine lv_aload_n hx hb dX1_waysAfter_16 rfl (lv_at hl 0 rfl) ?_
    refine lv_iload_n hx hb dX1_waysAfter_17 rfl (lv_at hl 1 rfl) ?_
    refine lv_iconst (v := (-1)) hx hb dX1_waysAfter_18 (by decide) ?_
    obtain ⟨r_19, hc_19, h⟩ := rk_bd h
    refine rk_v (wr := []) (va_runS (As := [.ref a_p1_letters, .int v_p0, .int (-1 : Int32)]) (rest := []) hF (mtX1_change l D cI cJ cO PL _ a_p1_letters c_p1_letters v_p0 (-1 : Int32) r_19 hc_19) (va_cwS 3 htc (rk_gVS w_1_200 w_1_201 w_1_8 w_1_202) rfl rfl rfl (by decide +kernel) ⟨(Nat.le_of_ble_eq_true rfl), (Nat.le_of_ble_eq_true rfl)⟩) (rk_preS hP hD hS hR hn hPL hnl hV [0] [] rfl (by decide) rfl (by decide)) rfl rfl hl.1 rfl (lv_room (Nat.le_of_ble_eq_true rfl)) dX1_waysAfter_19 ⟨(Nat.le_of_ble_eq_true rfl), (Nat.le_of_ble_eq_true rfl)⟩) hP hD hS hA hR0 hn [0] [] rfl rfl (by decide) (by decide) (fun H locs hP hD hS hR => ?_)
    have hP : va_P D vwCl [(a_p1_letters, .inl (cI, 4, .inl r_19))] H := hP
    have hD : va_D A [(a_p1_letters, .inl (cI, 4, .inl r_19))] := hD
    refine lv_aload_n hx hb dX1_waysAfter_22 rfl (lv_at hl 2 rfl) ?_
    refine lv_aload_n hx hb dX1_waysAfter_23 rfl (lv_at hl 0 rfl) ?_
    refine lv_iconst (v := 0) hx hb dX1_waysAfter_24 (by decide) ?_
    obtain ⟨r_25, hc_25, h⟩ := rk_bd h
    refine rk_i (wr := [(a_p1_letters, .inl (cI, 4, .inl r_19))]) (va_runSN (As := [.ref a_p1_letters, .int (0 : Int32)]) (rest := [.ref a_p1]) hF (mtX9_at l D cI cJ cO PL _ a_p1_letters 4 r_19 (0 : Int32) r_25 hc_25) ⟨va_cnB 2 htc (rk_gw w_1_52) rfl rfl rfl (hV.2.1 _ nw_1_199) (htc _ w_1_1) (by decide +kernel) ⟨(Nat.le_of_ble_eq_true rfl), (Nat.le_of_ble_eq_true rfl)⟩, htc _ w_1_51, trivial⟩ (rk_preS hP hD hS hR hn hPL hnl hV [] [(true, 0)] rfl (by decide) rfl (by decide)) rfl rfl hl.1 rfl (lv_room (Nat.le_of_ble_eq_true rfl)) dX1_waysAfter_25 ⟨(Nat.le_of_ble_eq_true rfl), (Nat.le_of_ble_eq_true rfl)⟩) hP hD hS hA hR0 hn [] [0] rfl rfl (by decide) (by decide) (fun H locs hP hD hS hR => ?_)
    have hP : va_P D vwCl [(a_p1_letters, .inl (cI, 4, .inl r_19))] H := hP
    have hD : va_D A [(a_p1_letters, .inl (cI, 4, .inl r_19))] := hD
    refine lv_aload_n hx hb dX1_waysAfter_28 rfl (lv_at hl 0 rfl) ?_
    refine lv_iconst (v := 1) hx hb dX1_waysAfter_29 (by decide) ?_
    obtain ⟨r_30, hc_30, h⟩ := rk_bd h
    refine rk_i (wr := [(a_p1_letters, .inl (cI, 4, .inl r_19))]) (va_runSN (As := [.ref a_p1_letters, .int (1 : Int32)]) (rest := [.int r_25, .ref a_p1]) hF (mtX9_at l D cI cJ cO PL _ a_p1_letters 4 r_19 (1 : Int32) r_30 hc_30) ⟨va_cnB 2 htc (rk_gw w_1_52) rfl rfl rfl (hV.2.1 _ nw_1_199) (htc _ w_1_1) (by decide +kernel) ⟨(Nat.le_of_ble_eq_true rfl), (Nat.le_of_ble_eq_true rfl)⟩, htc _ w_1_51, trivial⟩ (rk_preS hP hD hS hR hn hPL hnl hV [] [(true, 0)] rfl (by decide) rfl (by decide)) rfl rfl hl.1 rfl (lv_room (Nat.le_of_ble_eq_true rfl)) dX1_waysAfter_30 ⟨(Nat.le_of_ble_eq_true rfl), (Nat.le_of_ble_eq_true rfl)⟩) hP hD hS hA hR0 hn [] [0] rfl rfl (by decide) (by decide) (fun H locs hP hD hS hR => ?_)
    have hP : va_P D vwCl [(a_p1_letters, .inl (cI, 4, .inl r_19))] H := hP
    have hD : va_D A [(a_p1_letters, .inl (cI, 4, .inl r_19))] := hD
    refine lv_aload_n hx hb dX1_waysAfter_33 rfl (lv_at hl 0 rfl) ?_
    refine lv_iconst (v := 2) hx hb dX1_waysAfter_34 (by decide) ?_
    obtain ⟨r_35, hc_35, h⟩ := rk_bd h
    refine rk_i (wr := [(a_p1_letters, .inl (cI, 4, .inl r_19))]) (va_runSN (As := [.ref a_p1_letters, .int (2 : Int32)]) (rest := [.int r_30, .int r_25, .ref a_p1]) hF (mtX9_at l D cI cJ cO PL _ a_p1_letters 4 r_19 (2 : Int32) r_35 hc_35) ⟨va_cnB 2 htc (rk_gw w_1_52) rfl rfl rfl (hV.2.1 _ nw_1_199) (htc _ w_1_1) (by decide +kernel) ⟨(Nat.le_of_ble_eq_true rfl), (Nat.le_of_ble_eq_true rfl)⟩, htc _ w_1_51, trivial⟩ (rk_preS hP hD hS hR hn hPL hnl hV [] [(true, 0)] rfl (by decide) rfl (by decide)) rfl rfl hl.1 rfl (lv_room (Nat.le_of_ble_eq_true rfl)) dX1_waysAfter_35 ⟨(Nat.le_of_ble_eq_true rfl), (Nat.le_of_ble_eq_true rfl)⟩) hP hD hS hA hR0 hn [] [0] rfl rfl (by decide) (by decide) (fun H locs hP hD hS hR => ?_)
    have hP : va_P D vwCl [(a_p1_letters, .inl (cI, 4, .inl r_19))] H := hP
    have hD : va_D A [(a_p1_letters, .inl (cI, 4, .inl r_19))] := hD
    refine lv_aload_n hx hb dX1_waysAfter_38 rfl (lv_at hl 0 rfl) ?_
    refine lv_iconst (v := 3) hx hb dX1_waysAfter_39 (by decide) ?_
    obtain ⟨r_40, hc_40, h⟩ := rk_bd h
    refine rk_i (wr := [(a_p1_letters, .inl (cI, 4, .inl r_19))]) (va_runSN (As := [.ref a_p1_letters, .int (3 : Int32)]) (rest := [.int r_35, .int r_30, .int r_25, .ref a_p1]) hF (mtX9_at l D cI cJ cO PL _ a_p1_letters 4 r_19 (3 : Int32) r_40 hc_40) ⟨va_cnB 2 htc (rk_gw w_1_52) rfl rfl rfl (hV.2.1 _ nw_1_199) (htc _ w_1_1) (by decide +kernel) ⟨(Nat.le_of_ble_eq_true rfl), (Nat.le_of_ble_eq_true rfl)⟩, htc _ w_1_51, trivial⟩ (rk_preS hP hD hS hR hn hPL hnl hV [] [(true, 0)] rfl (by decide) rfl (by decide)) rfl rfl hl.1 rfl (lv_room (Nat.le_of_ble_eq_true rfl)) dX1_waysAfter_40 ⟨(Nat.le_of_ble_eq_true rfl), (Nat.le_of_ble_eq_true rfl)⟩) hP hD hS hA hR0 hn [] [0] rfl rfl (by decide) (by decide) (fun H locs hP hD hS hR => ?_)
    have hP : va_P D vwCl [(a_p1_letters, .inl (cI, 4, .inl r_19))] H := hP
    have hD : va_D A [(a_p1_letters, .inl (cI, 4, .inl r_19))] := hD
    obtain ⟨r_43, hc_43, h⟩ := rk_bd h
    refine rk_l (wr := [(a_p1_letters, .inl (cI, 4, .inl r_19))]) (va_runVN (C := RX2) (As := [.int r_25, .int r_30, .int r_35, .int r_40]) (rest := []) hF (mtX2_arrangements l D cI cJ cO PL _ a_p1 a_p1_binomials a_p1_partitionCounts a_p1_treeCounts a_p1_sizes a_p1_starts a_p1_ranks a_p1_letters c_p1_binomials r_25 r_30 r_35 r_40 r_43 hc_43) ⟨va_cnB 4 htc (rk_gw w_1_206) rfl rfl rfl (hV.2.1 _ nw_1_203) (htc _ w_1_2) (by decide +kernel) ⟨(Nat.le_of_ble_eq_true rfl), (Nat.le_of_ble_eq_true rfl)⟩, htc _ w_1_205, htc _ ws_3⟩ (rk_preV (va_recv hV.1 hR (ci := 2) (q0 := 0) rfl rfl) (rk_preS hP hD hS hR hn hPL hnl hV [] [(false, 0), (false, 1)] rfl (by decide) rfl (by decide))) rfl rfl hl.1 rfl (lv_room (Nat.le_of_ble_eq_true rfl)) dX1_waysAfter_43 ⟨(Nat.le_of_ble_eq_true rfl), (Nat.le_of_ble_eq_true rfl)⟩) hP hD hS hA hR0 hn [] [0] rfl rfl (by decide) (by decide) (fun H locs hP hD hS hR => ?_)
    have hP : va_P D vwCl [(a_p1_letters, .inl (cI, 4, .inl r_19))] H := hP
    have hD : va_D A [(a_p1_letters, .inl (cI, 4, .inl r_19))] := hD
    refine lv_lstore_n (lv' := [(3, .long r_43), (2, .ref a_p1_letters), (0, .int v_p0), (1, .ref a_p1)]) hx hb dX1_waysAfter_46 rfl hl (by decide) rfl (fun ls hl => ?_)
    refine lv_aload_n hx hb dX1_waysAfter_47 rfl (lv_at hl 1 rfl) ?_
    refine lv_iload_n hx hb dX1_waysAfter_48 rfl (lv_at hl 2 rfl) ?_
    refine lv_iconst (v := 1) hx hb dX1_waysAfter_49 (by decide) ?_
    obtain ⟨r_50, hc_50, h⟩ := rk_bd h
    refine rk_v (wr := []) (va_runS (As := [.ref a_p1_letters, .int v_p0, .int (1 : Int32)]) (rest := []) hF (mtX1_change l D cI cJ cO PL _ a_p1_letters r_19 v_p0 (1 : Int32) r_50 hc_50) (va_cwS 3 htc (rk_gVS w_1_200 w_1_201 w_1_8 w_1_202) rfl rfl rfl (by decide +kernel) ⟨(Nat.le_of_ble_eq_true rfl), (Nat.le_of_ble_eq_true rfl)⟩) (rk_preS hP hD hS hR hn hPL hnl hV [0] [] rfl (by decide) rfl (by decide)) rfl rfl hl.1 rfl (lv_room (Nat.le_of_ble_eq_true rfl)) dX1_waysAfter_50 ⟨(Nat.le_of_ble_eq_true rfl), (Nat.le_of_ble_eq_true rfl)⟩) hP hD hS hA hR0 hn [0] [] rfl rfl (by decide) (by decide) (fun H locs hP hD hS hR => ?_)
    have hP : va_P D vwCl [(a_p1_letters, .inl (cI, 4, .inl r_50))] H := hP
    have hD : va_D A [(a_p1_letters, .inl (cI, 4, .inl r_50))] := hD
    refine lv_lload_n hx hb dX1_waysAfter_53 rfl (lv_at hl 0 rfl) ?_
    exact hret (r_43, r_50) _ _ _ _ h dX1_waysAfter_54 hP hD hS
  · have h := rk_nif hc1 h
    refine lv_lconst (v := 0) hx hb dX1_waysAfter_14 (by decide) ?_
    exact hret ((0 : Int64), c_p1_letters) _ _ _ _ h dX1_waysAfter_15 hP hD hS
set_option maxHeartbeats 4000000 in
set_option maxRecDepth 100000 in
theorem mtX1_placeOf (l : Launch) (D : va_G) (cI cJ cO : ClassId) (PL : va_W) (sz : Nat) (a_this : Nat) (f_this_number : Int32) (f_this_width : Int32) (f_this_size : Int64) (f_this_zeros : Int32) (f_this_ones : Int32) (f_this_twos : Int32) (f_this_threes : Int32) (a_p1 : Nat) (c_p1 : Nat → Int32) (a_p2 : Nat) (a_p2_binomials : Nat) (a_p2_partitionCounts : Nat) (a_p2_treeCounts : Nat) (a_p2_sizes : Nat) (a_p2_starts : Nat) (a_p2_ranks : Nat) (a_p2_letters : Nat) (c_p2_letters : Nat → Int32) (c_p2_ranks : Nat → Int64) (c_p2_sizes : Nat → Int32) (c_p2_binomials : Nat → Int64) (c_p2_partitionCounts : Nat → Int32) (c_p2_treeCounts : Nat → Int64) (r0 : Int64 × (Nat → Int32) × (Nat → Int64) × (Nat → Int32)) (h : fX1_placeOf f_this_width f_this_zeros f_this_ones f_this_twos f_this_threes c_p1 c_p2_letters c_p2_ranks c_p2_sizes c_p2_binomials = some r0) : Met l yX1_placeOf (rk_w yX1_placeOf cX1_placeOf 8 (some .long)) rmX1_placeOf (va_Pc [.ref a_this, .ref a_p1, .ref a_p2] (rk_B D (rk_TY cI cJ cO) [(a_p2_letters, .inl (cI, 4, .inl c_p2_letters)), (a_p2_ranks, .inl (cJ, 60, .inr (.inl c_p2_ranks))), (a_p2_sizes, .inl (cI, 60, .inl c_p2_sizes))] [(a_this, .inr (1, [.int f_this_number, .int f_this_width, .long f_this_size, .int f_this_zeros, .int f_this_ones, .int f_this_twos, .int f_this_threes])), (a_p1, .inl (cI, 60, .inl c_p1)), (a_p2, .inr (2, [.ref a_p2_binomials, .ref a_p2_partitionCounts, .ref a_p2_treeCounts, .ref a_p2_sizes, .ref a_p2_starts, .ref a_p2_ranks, .ref a_p2_letters])), (a_p2_binomials, .inl (cJ, 1891, .inr (.inl c_p2_binomials))), (a_p2_partitionCounts, .inl (cI, 1891, .inl c_p2_partitionCounts)), (a_p2_treeCounts, .inl (cJ, 31, .inr (.inl c_p2_treeCounts)))] PL sz)) (rk_Ql r0.1 D [(a_p2_letters, .inl (cI, 4, .inl r0.2.1)), (a_p2_ranks, .inl (cJ, 60, .inr (.inl r0.2.2.1))), (a_p2_sizes, .inl (cI, 60, .inl r0.2.2.2))] [(a_p2_letters, .inl (cI, 4, .inl c_p2_letters)), (a_p2_ranks, .inl (cJ, 60, .inr (.inl c_p2_ranks))), (a_p2_sizes, .inl (cI, 60, .inl c_p2_sizes))] sz) 0 0 (va_A [(a_p2_letters, .inl (cI, 4, .inl c_p2_letters)), (a_p2_ranks, .inl (cJ, 60, .inr (.inl c_p2_ranks))), (a_p2_sizes, .inl (cI, 60, .inl c_p2_sizes))] sz) := by
  refine rk_metl h (fun x : Int64 × (Nat → Int32) × (Nat → Int64) × (Nat → Int32) => x.1) (fun x => [(a_p2_letters, .inl (cI, 4, .inl x.2.1)), (a_p2_ranks, .inl (cJ, 60, .inr (.inl x.2.2.1))), (a_p2_sizes, .inl (cI, 60, .inl x.2.2.2))]) (by decide) (Nat.le_of_ble_eq_true rfl) ?_
  intro p e s m args below meth c A ls Q hret hname hF hP hD hA hV hR0 hn hPL hnl hl h hS
  have hx := hF.1
  have hb := hF.2.1
  have hml := hF.2.2.1
  have hown : s.vm.findClass RX1 = some m.cls := hF.2.2.2.1
  have htc := hF.2.2.2.2
  have hP : va_P D vwCl [(a_p2_letters, .inl (cI, 4, .inl c_p2_letters)), (a_p2_ranks, .inl (cJ, 60, .inr (.inl c_p2_ranks))), (a_p2_sizes, .inl (cI, 60, .inl c_p2_sizes))] s.heap := hP
  have hD : va_D A [(a_p2_letters, .inl (cI, 4, .inl c_p2_letters)), (a_p2_ranks, .inl (cJ, 60, .inr (.inl c_p2_ranks))), (a_p2_sizes, .inl (cI, 60, .inl c_p2_sizes))] := hD
  have hR0 : va_P D vwCl [(a_this, .inr (1, [.int f_this_number, .int f_this_width, .long f_this_size, .int f_this_zeros, .int f_this_ones, .int f_this_twos, .int f_this_threes])), (a_p1, .inl (cI, 60, .inl c_p1)), (a_p2, .inr (2, [.ref a_p2_binomials, .ref a_p2_partitionCounts, .ref a_p2_treeCounts, .ref a_p2_sizes, .ref a_p2_starts, .ref a_p2_ranks, .ref a_p2_letters])), (a_p2_binomials, .inl (cJ, 1891, .inr (.inl c_p2_binomials))), (a_p2_partitionCounts, .inl (cI, 1891, .inl c_p2_partitionCounts)), (a_p2_treeCounts, .inl (cJ, 31, .inr (.inl c_p2_treeCounts)))] s.heap := hR0
  have hR := hR0
  have hl : lv_has ls 8 [(0, .ref a_this), (1, .ref a_p1), (2, .ref a_p2)] := hl
  unfold fX1_placeOf at h
  refine lv_aload_n hx hb dX1_placeOf_0 rfl (lv_at hl 0 rfl) ?_
  refine lv_aload_n hx hb dX1_placeOf_1 rfl (lv_at hl 2 rfl) ?_
  refine va_getN (D := D) (ci := 2) (v := .ref a_p2_letters) (C := RX2) (T := TX2) (N := 7) hx hb htc inX2 hown hV.1 hR 2 rfl rfl 6 (by decide) (va_Nw.use rfl (hV.2.1 _ nw_1_67)) (fun _ h9 => h9) rfl dX1_placeOf_2 ?_
  obtain ⟨r_5, hc_5, h⟩ := rk_bd h
  refine rk_v (wr := [(a_p2_ranks, .inl (cJ, 60, .inr (.inl c_p2_ranks))), (a_p2_sizes, .inl (cI, 60, .inl c_p2_sizes))]) (va_runV (C := RX1) (As := [.ref a_p2_letters]) (rest := []) hF (mtX1_layOutLetters l D cI cJ cO PL _ a_p2_letters c_p2_letters a_this f_this_number f_this_width f_this_size f_this_zeros f_this_ones f_this_twos f_this_threes r_5 hc_5) (cwV 1 htc (rk_gV w_1_186 w_1_188 ws_2 w_1_8 w_1_190) rfl rfl rfl (by decide +kernel) ⟨(Nat.le_of_ble_eq_true rfl), (Nat.le_of_ble_eq_true rfl)⟩) (rk_preV (va_recv hV.1 hR (ci := 1) (q0 := 0) rfl rfl) (rk_preS hP hD hS hR hn hPL hnl hV [0] [(false, 0)] rfl (by decide) rfl (by decide))) rfl rfl hl.1 rfl (lv_room (Nat.le_of_ble_eq_true rfl)) dX1_placeOf_5 ⟨(Nat.le_of_ble_eq_true rfl), (Nat.le_of_ble_eq_true rfl)⟩) hP hD hS hA hR0 hn [0] [1, 2] rfl rfl (by decide) (by decide) (fun H locs hP hD hS hR => ?_)
  have hP : va_P D vwCl [(a_p2_ranks, .inl (cJ, 60, .inr (.inl c_p2_ranks))), (a_p2_sizes, .inl (cI, 60, .inl c_p2_sizes)), (a_p2_letters, .inl (cI, 4, .inl r_5))] H := hP
  have hD : va_D A [(a_p2_ranks, .inl (cJ, 60, .inr (.inl c_p2_ranks))), (a_p2_sizes, .inl (cI, 60, .inl c_p2_sizes)), (a_p2_letters, .inl (cI, 4, .inl r_5))] := hD
  refine lv_lconst (v := 0) hx hb dX1_placeOf_8 (by decide) ?_
  refine lv_lstore_n (lv' := [(3, .long (0 : Int64)), (0, .ref a_this), (1, .ref a_p1), (2, .ref a_p2)]) hx hb dX1_placeOf_9 rfl hl (by decide) rfl (fun ls hl => ?_)
  refine lv_iconst (v := 0) hx hb dX1_placeOf_10 (by decide) ?_
  refine lv_istore (lv' := [(5, .int (0 : Int32)), (3, .long (0 : Int64)), (0, .ref a_this), (1, .ref a_p1), (2, .ref a_p2)]) hx hb dX1_placeOf_11 hl (by decide) rfl (fun ls hl => ?_)
  have L13 : ∀ (n13 : Nat) (b13_l3 : Int64) (b13_l5 : Int32) (b13_c_p2_letters : Nat → Int32), rk_it3 (fX1_placeOf_L13 f_this_width c_p1 c_p2_ranks c_p2_sizes c_p2_binomials) n13 b13_l3 b13_l5 b13_c_p2_letters = some r0 → ∀ (H : Heap) (locs : List Loc), va_P D vwCl [(a_p2_ranks, .inl (cJ, 60, .inr (.inl c_p2_ranks))), (a_p2_sizes, .inl (cI, 60, .inl c_p2_sizes)), (a_p2_letters, .inl (cI, 4, .inl b13_c_p2_letters))] H → va_D A [(a_p2_ranks, .inl (cJ, 60, .inr (.inl c_p2_ranks))), (a_p2_sizes, .inl (cI, 60, .inl c_p2_sizes)), (a_p2_letters, .inl (cI, 4, .inl b13_c_p2_letters))] → va_S A s.heap H locs → ∀ (ls : Array Slot), lv_has ls 8 [(0, .ref a_this), (1, .ref a_p1), (2, .ref a_p2), (3, .long b13_l3), (5, .int b13_l5)] → W p l e rmX1_placeOf s m args below meth c H locs 0 0 Q (F0 m 13 ls []) := by
    intro n13
    induction n13 with
    | zero => intro b13_l3 b13_l5 b13_c_p2_letters h; exact rk_no h
    | succ n13 ih13 =>
      intro b13_l3 b13_l5 b13_c_p2_letters h H locs hP hD hS ls hl
      have h : fX1_placeOf_L13 f_this_width c_p1 c_p2_ranks c_p2_sizes c_p2_binomials (rk_it3 (fX1_placeOf_L13 f_this_width c_p1 c_p2_ranks c_p2_sizes c_p2_binomials) n13) b13_l3 b13_l5 b13_c_p2_letters = some r0 := h
      unfold fX1_placeOf_L13 at h
      have hR := rk_keep hR0 hn hS
      refine lv_iload hx hb dX1_placeOf_13 (lv_at hl 4 rfl) ?_
      refine lv_aload_n hx hb dX1_placeOf_15 rfl (lv_at hl 0 rfl) ?_
      refine va_get (D := D) (ci := 1) (v := .int f_this_width) (C := RX1) (T := TX1) (N := 7) hx hb htc inX1 hown hV.1 hR 0 rfl rfl 1 (by decide) (htc _ w_1_131) (fun _ h9 => u_same (htc _ w_1_132) _ h9) rfl dX1_placeOf_16 ?_
      refine lv_icmp_ge (tgt := 71) hx hb dX1_placeOf_19 (by decide) (fun hc1 => ?_) (fun hc1 => ?_)
      · have h := rk_if hc1 h
        refine lv_lload_n hx hb dX1_placeOf_71 rfl (lv_at hl 3 rfl) ?_
        exact hret (b13_l3, b13_c_p2_letters, c_p2_ranks, c_p2_sizes) _ _ _ _ h dX1_placeOf_72 (hP.sub [2, 0, 1] rfl) (hD.sub [2, 0, 1] (by decide) rfl) hS
      · have h := rk_nif hc1 h
        refine lv_aload_n hx hb dX1_placeOf_22 rfl (lv_at hl 1 rfl) ?_
        refine lv_iload hx hb dX1_placeOf_23 (lv_at hl 4 rfl) ?_
        obtain ⟨r_25, hc_25, h⟩ := rk_bd h
        refine rk_i (wr := [(a_p2_ranks, .inl (cJ, 60, .inr (.inl c_p2_ranks))), (a_p2_sizes, .inl (cI, 60, .inl c_p2_sizes)), (a_p2_letters, .inl (cI, 4, .inl b13_c_p2_letters))]) (va_runSN (As := [.ref a_p1, .int b13_l5]) (rest := []) hF (mtX9_at l D cI cJ cO PL _ a_p1 60 c_p1 b13_l5 r_25 hc_25) ⟨va_cnB 2 htc (rk_gw w_1_52) rfl rfl rfl (hV.2.1 _ nw_1_199) (htc _ w_1_1) (by decide +kernel) ⟨(Nat.le_of_ble_eq_true rfl), (Nat.le_of_ble_eq_true rfl)⟩, htc _ w_1_51, trivial⟩ (rk_preS hP hD hS hR hn hPL hnl hV [] [(false, 1)] rfl (by decide) rfl (by decide)) rfl rfl hl.1 rfl (lv_room (Nat.le_of_ble_eq_true rfl)) dX1_placeOf_25 ⟨(Nat.le_of_ble_eq_true rfl), (Nat.le_of_ble_eq_true rfl)⟩) hP hD hS hA hR0 hn [] [0, 1, 2] rfl rfl (by decide) (by decide) (fun H locs hP hD hS hR => ?_)
        have hP : va_P D vwCl [(a_p2_ranks, .inl (cJ, 60, .inr (.inl c_p2_ranks))), (a_p2_sizes, .inl (cI, 60, .inl c_p2_sizes)), (a_p2_letters, .inl (cI, 4, .inl b13_c_p2_letters))] H := hP
        have hD : va_D A [(a_p2_ranks, .inl (cJ, 60, .inr (.inl c_p2_ranks))), (a_p2_sizes, .inl (cI, 60, .inl c_p2_sizes)), (a_p2_letters, .inl (cI, 4, .inl b13_c_p2_letters))] := hD
        refine lv_istore (lv' := [(6, .int r_25), (0, .ref a_this), (1, .ref a_p1), (2, .ref a_p2), (3, .long b13_l3), (5, .int b13_l5)]) hx hb dX1_placeOf_28 hl (by decide) rfl (fun ls hl => ?_)
        refine lv_iconst (v := 0) hx hb dX1_placeOf_30 (by decide) ?_
        refine lv_istore (lv' := [(7, .int (0 : Int32)), (6, .int r_25), (0, .ref a_this), (1, .ref a_p1), (2, .ref a_p2), (3, .long b13_l3), (5, .int b13_l5)]) hx hb dX1_placeOf_31 hl (by decide) rfl (fun ls hl => ?_)
        have L33 : ∀ (n33 : Nat) (b33_l3 : Int64) (b33_l7 : Int32) (b33_c_p2_letters : Nat → Int32), rk_it3 (fX1_placeOf_L33 c_p2_binomials b13_l5 (rk_it3 (fX1_placeOf_L13 f_this_width c_p1 c_p2_ranks c_p2_sizes c_p2_binomials) n13) r_25) n33 b33_l3 b33_l7 b33_c_p2_letters = some r0 → ∀ (H : Heap) (locs : List Loc), va_P D vwCl [(a_p2_ranks, .inl (cJ, 60, .inr (.inl c_p2_ranks))), (a_p2_sizes, .inl (cI, 60, .inl c_p2_sizes)), (a_p2_letters, .inl (cI, 4, .inl b33_c_p2_letters))] H → va_D A [(a_p2_ranks, .inl (cJ, 60, .inr (.inl c_p2_ranks))), (a_p2_sizes, .inl (cI, 60, .inl c_p2_sizes)), (a_p2_letters, .inl (cI, 4, .inl b33_c_p2_letters))] → va_S A s.heap H locs → ∀ (ls : Array Slot), lv_has ls 8 [(0, .ref a_this), (1, .ref a_p1), (2, .ref a_p2), (3, .long b33_l3), (5, .int b13_l5), (6, .int r_25), (7, .int b33_l7)] → W p l e rmX1_placeOf s m args below meth c H locs 0 0 Q (F0 m 33 ls []) := by
          intro n33
          induction n33 with
          | zero => intro b33_l3 b33_l7 b33_c_p2_letters h; exact rk_no h
          | succ n33 ih33 =>
            intro b33_l3 b33_l7 b33_c_p2_letters h H locs hP hD hS ls hl
            have h : fX1_placeOf_L33 c_p2_binomials b13_l5 (rk_it3 (fX1_placeOf_L13 f_this_width c_p1 c_p2_ranks c_p2_sizes c_p2_binomials) n13) r_25 (rk_it3 (fX1_placeOf_L33 c_p2_binomials b13_l5 (rk_it3 (fX1_placeOf_L13 f_this_width c_p1 c_p2_ranks c_p2_sizes c_p2_binomials) n13) r_25) n33) b33_l3 b33_l7 b33_c_p2_letters = some r0 := h
            unfold fX1_placeOf_L33 at h
            have hR := rk_keep hR0 hn hS
            refine lv_iload hx hb dX1_placeOf_33 (lv_at hl 6 rfl) ?_
            refine lv_iload hx hb dX1_placeOf_35 (lv_at hl 5 rfl) ?_
            refine lv_icmp_ge (tgt := 55) hx hb dX1_placeOf_37 (by decide) (fun hc2 => ?_) (fun hc2 => ?_)
            · have h := rk_if hc2 h
              refine lv_aload_n hx hb dX1_placeOf_55 rfl (lv_at hl 2 rfl) ?_
              refine va_getN (D := D) (ci := 2) (v := .ref a_p2_letters) (C := RX2) (T := TX2) (N := 7) hx hb htc inX2 hown hV.1 hR 2 rfl rfl 6 (by decide) (va_Nw.use rfl (hV.2.1 _ nw_1_67)) (fun _ h9 => h9) rfl dX1_placeOf_56 ?_
              refine lv_iload hx hb dX1_placeOf_59 (lv_at hl 5 rfl) ?_
              refine lv_iconst (v := (-1)) hx hb dX1_placeOf_61 (by decide) ?_
              obtain ⟨r_62, hc_62, h⟩ := rk_bd h
              refine rk_v (wr := [(a_p2_ranks, .inl (cJ, 60, .inr (.inl c_p2_ranks))), (a_p2_sizes, .inl (cI, 60, .inl c_p2_sizes))]) (va_runS (As := [.ref a_p2_letters, .int r_25, .int (-1 : Int32)]) (rest := []) hF (mtX1_change l D cI cJ cO PL _ a_p2_letters b33_c_p2_letters r_25 (-1 : Int32) r_62 hc_62) (va_cwS 3 htc (rk_gVS w_1_200 w_1_201 w_1_8 w_1_202) rfl rfl rfl (by decide +kernel) ⟨(Nat.le_of_ble_eq_true rfl), (Nat.le_of_ble_eq_true rfl)⟩) (rk_preS hP hD hS hR hn hPL hnl hV [2] [] rfl (by decide) rfl (by decide)) rfl rfl hl.1 rfl (lv_room (Nat.le_of_ble_eq_true rfl)) dX1_placeOf_62 ⟨(Nat.le_of_ble_eq_true rfl), (Nat.le_of_ble_eq_true rfl)⟩) hP hD hS hA hR0 hn [2] [0, 1] rfl rfl (by decide) (by decide) (fun H locs hP hD hS hR => ?_)
              have hP : va_P D vwCl [(a_p2_ranks, .inl (cJ, 60, .inr (.inl c_p2_ranks))), (a_p2_sizes, .inl (cI, 60, .inl c_p2_sizes)), (a_p2_letters, .inl (cI, 4, .inl r_62))] H := hP
              have hD : va_D A [(a_p2_ranks, .inl (cJ, 60, .inr (.inl c_p2_ranks))), (a_p2_sizes, .inl (cI, 60, .inl c_p2_sizes)), (a_p2_letters, .inl (cI, 4, .inl r_62))] := hD
              refine lv_iinc (v := (b13_l5 + 1)) (lv' := [(5, .int (b13_l5 + 1)), (0, .ref a_this), (1, .ref a_p1), (2, .ref a_p2), (3, .long b33_l3), (6, .int r_25), (7, .int b33_l7)]) hx hb dX1_placeOf_65 hl (k := 4) rfl rfl (by decide) rfl (fun ls hl => ?_)
              refine lv_goto (tgt := 13) hx hb dX1_placeOf_68 (by decide) ?_
              exact ih13 b33_l3 (b13_l5 + 1) r_62 h _ _ hP hD hS _ (lv_sub hl [1, 2, 3, 4, 0] rfl)
            · have h := rk_nif hc2 h
              refine lv_lload_n hx hb dX1_placeOf_40 rfl (lv_at hl 3 rfl) ?_
              refine lv_iload hx hb dX1_placeOf_41 (lv_at hl 6 rfl) ?_
              refine lv_aload_n hx hb dX1_placeOf_43 rfl (lv_at hl 2 rfl) ?_
              obtain ⟨r_44, hc_44, h⟩ := rk_bd h
              refine rk_l (wr := [(a_p2_ranks, .inl (cJ, 60, .inr (.inl c_p2_ranks))), (a_p2_sizes, .inl (cI, 60, .inl c_p2_sizes))]) (va_runS (As := [.int b33_l7, .ref a_p2]) (rest := [.long b33_l3]) hF (mtX1_waysAfter l D cI cJ cO PL _ a_p2 a_p2_binomials a_p2_partitionCounts a_p2_treeCounts a_p2_sizes a_p2_starts a_p2_ranks a_p2_letters b33_c_p2_letters c_p2_binomials b33_l7 r_44 hc_44) (va_cwS 2 htc (rk_gVS w_1_196 w_1_197 w_1_8 w_1_198) rfl rfl rfl (by decide +kernel) ⟨(Nat.le_of_ble_eq_true rfl), (Nat.le_of_ble_eq_true rfl)⟩) (rk_preS hP hD hS hR hn hPL hnl hV [2] [(false, 2), (false, 3)] rfl (by decide) rfl (by decide)) rfl rfl hl.1 rfl (lv_room (Nat.le_of_ble_eq_true rfl)) dX1_placeOf_44 ⟨(Nat.le_of_ble_eq_true rfl), (Nat.le_of_ble_eq_true rfl)⟩) hP hD hS hA hR0 hn [2] [0, 1] rfl rfl (by decide) (by decide) (fun H locs hP hD hS hR => ?_)
              have hP : va_P D vwCl [(a_p2_ranks, .inl (cJ, 60, .inr (.inl c_p2_ranks))), (a_p2_sizes, .inl (cI, 60, .inl c_p2_sizes)), (a_p2_letters, .inl (cI, 4, .inl r_44.2))] H := hP
              have hD : va_D A [(a_p2_ranks, .inl (cJ, 60, .inr (.inl c_p2_ranks))), (a_p2_sizes, .inl (cI, 60, .inl c_p2_sizes)), (a_p2_letters, .inl (cI, 4, .inl r_44.2))] := hD
              refine lv_ladd hx hb dX1_placeOf_47 ?_
              refine lv_lstore_n (lv' := [(3, .long (b33_l3 + r_44.1)), (0, .ref a_this), (1, .ref a_p1), (2, .ref a_p2), (5, .int b13_l5), (6, .int r_25), (7, .int b33_l7)]) hx hb dX1_placeOf_48 rfl hl (by decide) rfl (fun ls hl => ?_)
              refine lv_iinc (v := (b33_l7 + 1)) (lv' := [(7, .int (b33_l7 + 1)), (3, .long (b33_l3 + r_44.1)), (0, .ref a_this), (1, .ref a_p1), (2, .ref a_p2), (5, .int b13_l5), (6, .int r_25)]) hx hb dX1_placeOf_49 hl (k := 6) rfl rfl (by decide) rfl (fun ls hl => ?_)
              refine lv_goto (tgt := 33) hx hb dX1_placeOf_52 (by decide) ?_
              exact ih33 (b33_l3 + r_44.1) (b33_l7 + 1) r_44.2 h _ _ hP hD hS _ (lv_sub hl [2, 3, 4, 1, 5, 6, 0] rfl)
        exact L33 FU b13_l3 (0 : Int32) b13_c_p2_letters h _ _ hP hD hS _ (lv_sub hl [2, 3, 4, 5, 6, 1, 0] rfl)
  exact L13 FU (0 : Int64) (0 : Int32) r_5 h _ _ hP hD hS _ (lv_sub hl [2, 3, 4, 1, 0] rfl)
set_option maxHeartbeats 4000000 in
set_option maxRecDepth 100000 in
theorem mtX1_lay (l : Launch) (D : va_G) (cI cJ cO : ClassId) (PL : va_W) (sz : Nat) (a_p3 : Nat) (c_p3 : Nat → Int32) (a_this : Nat) (f_this_number : Int32) (f_this_width : Int32) (f_this_size : Int64) (f_this_zeros : Int32) (f_this_ones : Int32) (f_this_twos : Int32) (f_this_threes : Int32) (a_p4 : Nat) (a_p4_binomials : Nat) (a_p4_partitionCounts : Nat) (a_p4_treeCounts : Nat) (a_p4_sizes : Nat) (a_p4_starts : Nat) (a_p4_ranks : Nat) (a_p4_letters : Nat) (c_p4_letters : Nat → Int32) (c_p4_ranks : Nat → Int64) (c_p4_sizes : Nat → Int32) (c_p4_binomials : Nat → Int64) (c_p4_partitionCounts : Nat → Int32) (c_p4_treeCounts : Nat → Int64) (v_p1 : Int64) (r0 : (Nat → Int32) × (Nat → Int32) × (Nat → Int64) × (Nat → Int32)) (h : fX1_lay c_p3 f_this_width f_this_zeros f_this_ones f_this_twos f_this_threes c_p4_letters c_p4_ranks c_p4_sizes c_p4_binomials v_p1 = some r0) : Met l yX1_lay (rk_w yX1_lay cX1_lay 12 none) rmX1_lay (va_Pc [.ref a_this, .long v_p1, .ref a_p3, .ref a_p4] (rk_B D (rk_TY cI cJ cO) [(a_p3, .inl (cI, 60, .inl c_p3)), (a_p4_letters, .inl (cI, 4, .inl c_p4_letters)), (a_p4_ranks, .inl (cJ, 60, .inr (.inl c_p4_ranks))), (a_p4_sizes, .inl (cI, 60, .inl c_p4_sizes))] [(a_this, .inr (1, [.int f_this_number, .int f_this_width, .long f_this_size, .int f_this_zeros, .int f_this_ones, .int f_this_twos, .int f_this_threes])), (a_p4, .inr (2, [.ref a_p4_binomials, .ref a_p4_partitionCounts, .ref a_p4_treeCounts, .ref a_p4_sizes, .ref a_p4_starts, .ref a_p4_ranks, .ref a_p4_letters])), (a_p4_binomials, .inl (cJ, 1891, .inr (.inl c_p4_binomials))), (a_p4_partitionCounts, .inl (cI, 1891, .inl c_p4_partitionCounts)), (a_p4_treeCounts, .inl (cJ, 31, .inr (.inl c_p4_treeCounts)))] PL sz)) (rk_Qv D [(a_p3, .inl (cI, 60, .inl r0.1)), (a_p4_letters, .inl (cI, 4, .inl r0.2.1)), (a_p4_ranks, .inl (cJ, 60, .inr (.inl r0.2.2.1))), (a_p4_sizes, .inl (cI, 60, .inl r0.2.2.2))] [(a_p3, .inl (cI, 60, .inl c_p3)), (a_p4_letters, .inl (cI, 4, .inl c_p4_letters)), (a_p4_ranks, .inl (cJ, 60, .inr (.inl c_p4_ranks))), (a_p4_sizes, .inl (cI, 60, .inl c_p4_sizes))] sz) 0 0 (va_A [(a_p3, .inl (cI, 60, .inl c_p3)), (a_p4_letters, .inl (cI, 4, .inl c_p4_letters)), (a_p4_ranks, .inl (cJ, 60, .inr (.inl c_p4_ranks))), (a_p4_sizes, .inl (cI, 60, .inl c_p4_sizes))] sz) := by
  refine rk_metv h (fun x => [(a_p3, .inl (cI, 60, .inl x.1)), (a_p4_letters, .inl (cI, 4, .inl x.2.1)), (a_p4_ranks, .inl (cJ, 60, .inr (.inl x.2.2.1))), (a_p4_sizes, .inl (cI, 60, .inl x.2.2.2))]) (by decide) (Nat.le_of_ble_eq_true rfl) ?_
  intro p e s m args below meth c A ls Q hret hname hF hP hD hA hV hR0 hn hPL hnl hl h hS
  have hx := hF.1
  have hb := hF.2.1
  have hml := hF.2.2.1
  have hown : s.vm.findClass RX1 = some m.cls := hF.2.2.2.1
  have htc := hF.2.2.2.2
  have hP : va_P D vwCl [(a_p3, .inl (cI, 60, .inl c_p3)), (a_p4_letters, .inl (cI, 4, .inl c_p4_letters)), (a_p4_ranks, .inl (cJ, 60, .inr (.inl c_p4_ranks))), (a_p4_sizes, .inl (cI, 60, .inl c_p4_sizes))] s.heap := hP
  have hD : va_D A [(a_p3, .inl (cI, 60, .inl c_p3)), (a_p4_letters, .inl (cI, 4, .inl c_p4_letters)), (a_p4_ranks, .inl (cJ, 60, .inr (.inl c_p4_ranks))), (a_p4_sizes, .inl (cI, 60, .inl c_p4_sizes))] := hD
  have hR0 : va_P D vwCl [(a_this, .inr (1, [.int f_this_number, .int f_this_width, .long f_this_size, .int f_this_zeros, .int f_this_ones, .int f_this_twos, .int f_this_threes])), (a_p4, .inr (2, [.ref a_p4_binomials, .ref a_p4_partitionCounts, .ref a_p4_treeCounts, .ref a_p4_sizes, .ref a_p4_starts, .ref a_p4_ranks, .ref a_p4_letters])), (a_p4_binomials, .inl (cJ, 1891, .inr (.inl c_p4_binomials))), (a_p4_partitionCounts, .inl (cI, 1891, .inl c_p4_partitionCounts)), (a_p4_treeCounts, .inl (cJ, 31, .inr (.inl c_p4_treeCounts)))] s.heap := hR0
  have hR := hR0
  have hl : lv_has ls 12 [(0, .ref a_this), (1, .long v_p1), (3, .ref a_p3), (4, .ref a_p4)] := hl
  unfold fX1_lay at h
  refine lv_aload_n hx hb dX1_lay_0 rfl (lv_at hl 0 rfl) ?_
  refine lv_aload hx hb dX1_lay_1 (lv_at hl 3 rfl) ?_
  refine va_getN (D := D) (ci := 2) (v := .ref a_p4_letters) (C := RX2) (T := TX2) (N := 7) hx hb htc inX2 hown hV.1 hR 1 rfl rfl 6 (by decide) (va_Nw.use rfl (hV.2.1 _ nw_1_67)) (fun _ h9 => h9) rfl dX1_lay_3 ?_
  obtain ⟨r_6, hc_6, h⟩ := rk_bd h
  refine rk_v (wr := [(a_p3, .inl (cI, 60, .inl c_p3)), (a_p4_ranks, .inl (cJ, 60, .inr (.inl c_p4_ranks))), (a_p4_sizes, .inl (cI, 60, .inl c_p4_sizes))]) (va_runV (C := RX1) (As := [.ref a_p4_letters]) (rest := []) hF (mtX1_layOutLetters l D cI cJ cO PL _ a_p4_letters c_p4_letters a_this f_this_number f_this_width f_this_size f_this_zeros f_this_ones f_this_twos f_this_threes r_6 hc_6) (cwV 1 htc (rk_gV w_1_186 w_1_188 ws_2 w_1_8 w_1_190) rfl rfl rfl (by decide +kernel) ⟨(Nat.le_of_ble_eq_true rfl), (Nat.le_of_ble_eq_true rfl)⟩) (rk_preV (va_recv hV.1 hR (ci := 1) (q0 := 0) rfl rfl) (rk_preS hP hD hS hR hn hPL hnl hV [1] [(false, 0)] rfl (by decide) rfl (by decide))) rfl rfl hl.1 rfl (lv_room (Nat.le_of_ble_eq_true rfl)) dX1_lay_6 ⟨(Nat.le_of_ble_eq_true rfl), (Nat.le_of_ble_eq_true rfl)⟩) hP hD hS hA hR0 hn [1] [0, 2, 3] rfl rfl (by decide) (by decide) (fun H locs hP hD hS hR => ?_)
  have hP : va_P D vwCl [(a_p3, .inl (cI, 60, .inl c_p3)), (a_p4_ranks, .inl (cJ, 60, .inr (.inl c_p4_ranks))), (a_p4_sizes, .inl (cI, 60, .inl c_p4_sizes)), (a_p4_letters, .inl (cI, 4, .inl r_6))] H := hP
  have hD : va_D A [(a_p3, .inl (cI, 60, .inl c_p3)), (a_p4_ranks, .inl (cJ, 60, .inr (.inl c_p4_ranks))), (a_p4_sizes, .inl (cI, 60, .inl c_p4_sizes)), (a_p4_letters, .inl (cI, 4, .inl r_6))] := hD
  refine lv_lload_n hx hb dX1_lay_9 rfl (lv_at hl 1 rfl) ?_
  refine lv_lstore (lv' := [(5, .long v_p1), (0, .ref a_this), (1, .long v_p1), (3, .ref a_p3), (4, .ref a_p4)]) hx hb dX1_lay_10 hl (by decide) rfl (fun ls hl => ?_)
  refine lv_iconst (v := 0) hx hb dX1_lay_12 (by decide) ?_
  refine lv_istore (lv' := [(7, .int (0 : Int32)), (5, .long v_p1), (0, .ref a_this), (1, .long v_p1), (3, .ref a_p3), (4, .ref a_p4)]) hx hb dX1_lay_13 hl (by decide) rfl (fun ls hl => ?_)
  have L15 : ∀ (n15 : Nat) (b15_l5 : Int64) (b15_l7 : Int32) (b15_c_p3 : Nat → Int32) (b15_c_p4_letters : Nat → Int32), rk_it4 (fX1_lay_L15 f_this_width c_p4_ranks c_p4_sizes c_p4_binomials) n15 b15_l5 b15_l7 b15_c_p3 b15_c_p4_letters = some r0 → ∀ (H : Heap) (locs : List Loc), va_P D vwCl [(a_p3, .inl (cI, 60, .inl b15_c_p3)), (a_p4_ranks, .inl (cJ, 60, .inr (.inl c_p4_ranks))), (a_p4_sizes, .inl (cI, 60, .inl c_p4_sizes)), (a_p4_letters, .inl (cI, 4, .inl b15_c_p4_letters))] H → va_D A [(a_p3, .inl (cI, 60, .inl b15_c_p3)), (a_p4_ranks, .inl (cJ, 60, .inr (.inl c_p4_ranks))), (a_p4_sizes, .inl (cI, 60, .inl c_p4_sizes)), (a_p4_letters, .inl (cI, 4, .inl b15_c_p4_letters))] → va_S A s.heap H locs → ∀ (ls : Array Slot), lv_has ls 12 [(0, .ref a_this), (3, .ref a_p3), (4, .ref a_p4), (5, .long b15_l5), (7, .int b15_l7)] → W p l e rmX1_lay s m args below meth c H locs 0 0 Q (F0 m 15 ls []) := by
    intro n15
    induction n15 with
    | zero => intro b15_l5 b15_l7 b15_c_p3 b15_c_p4_letters h; exact rk_no h
    | succ n15 ih15 =>
      intro b15_l5 b15_l7 b15_c_p3 b15_c_p4_letters h H locs hP hD hS ls hl
      have h : fX1_lay_L15 f_this_width c_p4_ranks c_p4_sizes c_p4_binomials (rk_it4 (fX1_lay_L15 f_this_width c_p4_ranks c_p4_sizes c_p4_binomials) n15) b15_l5 b15_l7 b15_c_p3 b15_c_p4_letters = some r0 := h
      unfold fX1_lay_L15 at h
      have hR := rk_keep hR0 hn hS
      refine lv_iload hx hb dX1_lay_15 (lv_at hl 4 rfl) ?_
      refine lv_aload_n hx hb dX1_lay_17 rfl (lv_at hl 0 rfl) ?_
      refine va_get (D := D) (ci := 1) (v := .int f_this_width) (C := RX1) (T := TX1) (N := 7) hx hb htc inX1 hown hV.1 hR 0 rfl rfl 1 (by decide) (htc _ w_1_131) (fun _ h9 => u_same (htc _ w_1_132) _ h9) rfl dX1_lay_18 ?_
      refine lv_icmp_ge (tgt := 100) hx hb dX1_lay_21 (by decide) (fun hc1 => ?_) (fun hc1 => ?_)
      · have h := rk_if hc1 h
        exact hret (b15_c_p3, b15_c_p4_letters, c_p4_ranks, c_p4_sizes) _ _ _ _ h dX1_lay_100 (hP.sub [0, 3, 1, 2] rfl) (hD.sub [0, 3, 1, 2] (by decide) rfl) hS
      · have h := rk_nif hc1 h
        refine lv_iconst (v := 0) hx hb dX1_lay_24 (by decide) ?_
        refine lv_istore (lv' := [(8, .int (0 : Int32)), (0, .ref a_this), (3, .ref a_p3), (4, .ref a_p4), (5, .long b15_l5), (7, .int b15_l7)]) hx hb dX1_lay_25 hl (by decide) rfl (fun ls hl => ?_)
        refine lv_iconst (v := 0) hx hb dX1_lay_27 (by decide) ?_
        refine lv_istore (lv' := [(9, .int (0 : Int32)), (8, .int (0 : Int32)), (0, .ref a_this), (3, .ref a_p3), (4, .ref a_p4), (5, .long b15_l5), (7, .int b15_l7)]) hx hb dX1_lay_28 hl (by decide) rfl (fun ls hl => ?_)
        have L30 : ∀ (n30 : Nat) (b30_l5 : Int64) (b30_l8 : Int32) (b30_l9 : Int32) (b30_c_p4_letters : Nat → Int32), rk_it4 (fX1_lay_L30 c_p4_binomials b15_l7 b15_c_p3 (rk_it4 (fX1_lay_L15 f_this_width c_p4_ranks c_p4_sizes c_p4_binomials) n15)) n30 b30_l5 b30_l8 b30_l9 b30_c_p4_letters = some r0 → ∀ (H : Heap) (locs : List Loc), va_P D vwCl [(a_p3, .inl (cI, 60, .inl b15_c_p3)), (a_p4_ranks, .inl (cJ, 60, .inr (.inl c_p4_ranks))), (a_p4_sizes, .inl (cI, 60, .inl c_p4_sizes)), (a_p4_letters, .inl (cI, 4, .inl b30_c_p4_letters))] H → va_D A [(a_p3, .inl (cI, 60, .inl b15_c_p3)), (a_p4_ranks, .inl (cJ, 60, .inr (.inl c_p4_ranks))), (a_p4_sizes, .inl (cI, 60, .inl c_p4_sizes)), (a_p4_letters, .inl (cI, 4, .inl b30_c_p4_letters))] → va_S A s.heap H locs → ∀ (ls : Array Slot), lv_has ls 12 [(0, .ref a_this), (3, .ref a_p3), (4, .ref a_p4), (5, .long b30_l5), (7, .int b15_l7), (8, .int b30_l8), (9, .int b30_l9)] → W p l e rmX1_lay s m args below meth c H locs 0 0 Q (F0 m 30 ls []) := by
          intro n30
          induction n30 with
          | zero => intro b30_l5 b30_l8 b30_l9 b30_c_p4_letters h; exact rk_no h
          | succ n30 ih30 =>
            intro b30_l5 b30_l8 b30_l9 b30_c_p4_letters h H locs hP hD hS ls hl
            have h : fX1_lay_L30 c_p4_binomials b15_l7 b15_c_p3 (rk_it4 (fX1_lay_L15 f_this_width c_p4_ranks c_p4_sizes c_p4_binomials) n15) (rk_it4 (fX1_lay_L30 c_p4_binomials b15_l7 b15_c_p3 (rk_it4 (fX1_lay_L15 f_this_width c_p4_ranks c_p4_sizes c_p4_binomials) n15)) n30) b30_l5 b30_l8 b30_l9 b30_c_p4_letters = some r0 := h
            unfold fX1_lay_L30 at h
            have hR := rk_keep hR0 hn hS
            refine lv_iload hx hb dX1_lay_30 (lv_at hl 6 rfl) ?_
            refine lv_iconst (v := 3) hx hb dX1_lay_32 (by decide) ?_
            have B75 : ∀ (b75_c_p4_letters : Nat → Int32), fX1_lay_B75 b15_l7 b15_c_p3 (rk_it4 (fX1_lay_L15 f_this_width c_p4_ranks c_p4_sizes c_p4_binomials) n15) b30_l5 b30_l8 b75_c_p4_letters = some r0 → ∀ (H : Heap) (locs : List Loc), va_P D vwCl [(a_p3, .inl (cI, 60, .inl b15_c_p3)), (a_p4_ranks, .inl (cJ, 60, .inr (.inl c_p4_ranks))), (a_p4_sizes, .inl (cI, 60, .inl c_p4_sizes)), (a_p4_letters, .inl (cI, 4, .inl b75_c_p4_letters))] H → va_D A [(a_p3, .inl (cI, 60, .inl b15_c_p3)), (a_p4_ranks, .inl (cJ, 60, .inr (.inl c_p4_ranks))), (a_p4_sizes, .inl (cI, 60, .inl c_p4_sizes)), (a_p4_letters, .inl (cI, 4, .inl b75_c_p4_letters))] → va_S A s.heap H locs → ∀ (ls : Array Slot), lv_has ls 12 [(0, .ref a_this), (3, .ref a_p3), (4, .ref a_p4), (5, .long b30_l5), (7, .int b15_l7), (8, .int b30_l8)] → W p l e rmX1_lay s m args below meth c H locs 0 0 Q (F0 m 75 ls []) := by
              intro b75_c_p4_letters h H locs hP hD hS ls hl
              unfold fX1_lay_B75 at h
              have hR := rk_keep hR0 hn hS
              refine lv_aload_n hx hb dX1_lay_75 rfl (lv_at hl 1 rfl) ?_
              refine lv_iload hx hb dX1_lay_76 (lv_at hl 4 rfl) ?_
              refine lv_iload hx hb dX1_lay_78 (lv_at hl 5 rfl) ?_
              obtain ⟨r_80, hc_80, h⟩ := rk_bd h
              refine rk_v (wr := [(a_p4_ranks, .inl (cJ, 60, .inr (.inl c_p4_ranks))), (a_p4_sizes, .inl (cI, 60, .inl c_p4_sizes)), (a_p4_letters, .inl (cI, 4, .inl b75_c_p4_letters))]) (va_runSN (As := [.ref a_p3, .int b15_l7, .int b30_l8]) (rest := []) hF (mtX9_set l D cI cJ cO PL _ a_p3 60 b15_c_p3 b15_l7 b30_l8 r_80 hc_80) ⟨va_cnB 3 htc (rk_gw w_1_46) rfl rfl rfl (hV.2.1 _ nw_1_195) (htc _ w_1_1) (by decide +kernel) ⟨(Nat.le_of_ble_eq_true rfl), (Nat.le_of_ble_eq_true rfl)⟩, htc _ w_1_45, trivial⟩ (rk_preS hP hD hS hR hn hPL hnl hV [0] [] rfl (by decide) rfl (by decide)) rfl rfl hl.1 rfl (lv_room (Nat.le_of_ble_eq_true rfl)) dX1_lay_80 ⟨(Nat.le_of_ble_eq_true rfl), (Nat.le_of_ble_eq_true rfl)⟩) hP hD hS hA hR0 hn [0] [1, 2, 3] rfl rfl (by decide) (by decide) (fun H locs hP hD hS hR => ?_)
              have hP : va_P D vwCl [(a_p4_ranks, .inl (cJ, 60, .inr (.inl c_p4_ranks))), (a_p4_sizes, .inl (cI, 60, .inl c_p4_sizes)), (a_p4_letters, .inl (cI, 4, .inl b75_c_p4_letters)), (a_p3, .inl (cI, 60, .inl r_80))] H := hP
              have hD : va_D A [(a_p4_ranks, .inl (cJ, 60, .inr (.inl c_p4_ranks))), (a_p4_sizes, .inl (cI, 60, .inl c_p4_sizes)), (a_p4_letters, .inl (cI, 4, .inl b75_c_p4_letters)), (a_p3, .inl (cI, 60, .inl r_80))] := hD
              refine lv_aload hx hb dX1_lay_83 (lv_at hl 2 rfl) ?_
              refine va_getN (D := D) (ci := 2) (v := .ref a_p4_letters) (C := RX2) (T := TX2) (N := 7) hx hb htc inX2 hown hV.1 hR 1 rfl rfl 6 (by decide) (va_Nw.use rfl (hV.2.1 _ nw_1_67)) (fun _ h9 => h9) rfl dX1_lay_85 ?_
              refine lv_iload hx hb dX1_lay_88 (lv_at hl 5 rfl) ?_
              refine lv_iconst (v := (-1)) hx hb dX1_lay_90 (by decide) ?_
              obtain ⟨r_91, hc_91, h⟩ := rk_bd h
              refine rk_v (wr := [(a_p4_ranks, .inl (cJ, 60, .inr (.inl c_p4_ranks))), (a_p4_sizes, .inl (cI, 60, .inl c_p4_sizes)), (a_p3, .inl (cI, 60, .inl r_80))]) (va_runS (As := [.ref a_p4_letters, .int b30_l8, .int (-1 : Int32)]) (rest := []) hF (mtX1_change l D cI cJ cO PL _ a_p4_letters b75_c_p4_letters b30_l8 (-1 : Int32) r_91 hc_91) (va_cwS 3 htc (rk_gVS w_1_200 w_1_201 w_1_8 w_1_202) rfl rfl rfl (by decide +kernel) ⟨(Nat.le_of_ble_eq_true rfl), (Nat.le_of_ble_eq_true rfl)⟩) (rk_preS hP hD hS hR hn hPL hnl hV [2] [] rfl (by decide) rfl (by decide)) rfl rfl hl.1 rfl (lv_room (Nat.le_of_ble_eq_true rfl)) dX1_lay_91 ⟨(Nat.le_of_ble_eq_true rfl), (Nat.le_of_ble_eq_true rfl)⟩) hP hD hS hA hR0 hn [2] [0, 1, 3] rfl rfl (by decide) (by decide) (fun H locs hP hD hS hR => ?_)
              have hP : va_P D vwCl [(a_p4_ranks, .inl (cJ, 60, .inr (.inl c_p4_ranks))), (a_p4_sizes, .inl (cI, 60, .inl c_p4_sizes)), (a_p3, .inl (cI, 60, .inl r_80)), (a_p4_letters, .inl (cI, 4, .inl r_91))] H := hP
              have hD : va_D A [(a_p4_ranks, .inl (cJ, 60, .inr (.inl c_p4_ranks))), (a_p4_sizes, .inl (cI, 60, .inl c_p4_sizes)), (a_p3, .inl (cI, 60, .inl r_80)), (a_p4_letters, .inl (cI, 4, .inl r_91))] := hD
              refine lv_iinc (v := (b15_l7 + 1)) (lv' := [(7, .int (b15_l7 + 1)), (0, .ref a_this), (3, .ref a_p3), (4, .ref a_p4), (5, .long b30_l5), (8, .int b30_l8)]) hx hb dX1_lay_94 hl (k := 4) rfl rfl (by decide) rfl (fun ls hl => ?_)
              refine lv_goto (tgt := 15) hx hb dX1_lay_97 (by decide) ?_
              exact ih15 b30_l5 (b15_l7 + 1) r_80 r_91 h _ _ (hP.sub [2, 0, 1, 3] rfl) (hD.sub [2, 0, 1, 3] (by decide) rfl) hS _ (lv_sub hl [1, 2, 3, 4, 0] rfl)
            refine lv_icmp_ge (tgt := 75) hx hb dX1_lay_33 (by decide) (fun hc2 => ?_) (fun hc2 => ?_)
            · have h := rk_if hc2 h
              exact B75 b30_c_p4_letters h _ _ hP hD hS _ (lv_sub hl [0, 1, 2, 3, 4, 5] rfl)
            · have h := rk_nif hc2 h
              refine lv_iload hx hb dX1_lay_36 (lv_at hl 6 rfl) ?_
              refine lv_aload hx hb dX1_lay_38 (lv_at hl 2 rfl) ?_
              obtain ⟨r_40, hc_40, h⟩ := rk_bd h
              refine rk_l (wr := [(a_p3, .inl (cI, 60, .inl b15_c_p3)), (a_p4_ranks, .inl (cJ, 60, .inr (.inl c_p4_ranks))), (a_p4_sizes, .inl (cI, 60, .inl c_p4_sizes))]) (va_runS (As := [.int b30_l9, .ref a_p4]) (rest := []) hF (mtX1_waysAfter l D cI cJ cO PL _ a_p4 a_p4_binomials a_p4_partitionCounts a_p4_treeCounts a_p4_sizes a_p4_starts a_p4_ranks a_p4_letters b30_c_p4_letters c_p4_binomials b30_l9 r_40 hc_40) (va_cwS 2 htc (rk_gVS w_1_196 w_1_197 w_1_8 w_1_198) rfl rfl rfl (by decide +kernel) ⟨(Nat.le_of_ble_eq_true rfl), (Nat.le_of_ble_eq_true rfl)⟩) (rk_preS hP hD hS hR hn hPL hnl hV [3] [(false, 1), (false, 2)] rfl (by decide) rfl (by decide)) rfl rfl hl.1 rfl (lv_room (Nat.le_of_ble_eq_true rfl)) dX1_lay_40 ⟨(Nat.le_of_ble_eq_true rfl), (Nat.le_of_ble_eq_true rfl)⟩) hP hD hS hA hR0 hn [3] [0, 1, 2] rfl rfl (by decide) (by decide) (fun H locs hP hD hS hR => ?_)
              have hP : va_P D vwCl [(a_p3, .inl (cI, 60, .inl b15_c_p3)), (a_p4_ranks, .inl (cJ, 60, .inr (.inl c_p4_ranks))), (a_p4_sizes, .inl (cI, 60, .inl c_p4_sizes)), (a_p4_letters, .inl (cI, 4, .inl r_40.2))] H := hP
              have hD : va_D A [(a_p3, .inl (cI, 60, .inl b15_c_p3)), (a_p4_ranks, .inl (cJ, 60, .inr (.inl c_p4_ranks))), (a_p4_sizes, .inl (cI, 60, .inl c_p4_sizes)), (a_p4_letters, .inl (cI, 4, .inl r_40.2))] := hD
              refine lv_lstore (lv' := [(10, .long r_40.1), (0, .ref a_this), (3, .ref a_p3), (4, .ref a_p4), (5, .long b30_l5), (7, .int b15_l7), (8, .int b30_l8), (9, .int b30_l9)]) hx hb dX1_lay_43 hl (by decide) rfl (fun ls hl => ?_)
              refine lv_lload hx hb dX1_lay_45 (lv_at hl 4 rfl) ?_
              refine lv_lload hx hb dX1_lay_47 (lv_at hl 0 rfl) ?_
              refine rk_lcge (tgt := 56) hx hb dX1_lay_49 dX1_lay_50 (by decide) (fun hc3 => ?_) (fun hc3 => ?_)
              · have h := rk_if hc3 h
                refine lv_lload hx hb dX1_lay_56 (lv_at hl 4 rfl) ?_
                refine lv_lload hx hb dX1_lay_58 (lv_at hl 0 rfl) ?_
                refine lv_lsub hx hb dX1_lay_60 ?_
                refine lv_lstore (lv' := [(5, .long (b30_l5 - r_40.1)), (10, .long r_40.1), (0, .ref a_this), (3, .ref a_p3), (4, .ref a_p4), (7, .int b15_l7), (8, .int b30_l8), (9, .int b30_l9)]) hx hb dX1_lay_61 hl (by decide) rfl (fun ls hl => ?_)
                refine lv_iload hx hb dX1_lay_63 (lv_at hl 7 rfl) ?_
                refine lv_iconst (v := 1) hx hb dX1_lay_65 (by decide) ?_
                refine lv_iadd hx hb dX1_lay_66 ?_
                refine lv_istore (lv' := [(8, .int (b30_l9 + (1 : Int32))), (5, .long (b30_l5 - r_40.1)), (10, .long r_40.1), (0, .ref a_this), (3, .ref a_p3), (4, .ref a_p4), (7, .int b15_l7), (9, .int b30_l9)]) hx hb dX1_lay_67 hl (by decide) rfl (fun ls hl => ?_)
                refine lv_iinc (v := (b30_l9 + 1)) (lv' := [(9, .int (b30_l9 + 1)), (8, .int (b30_l9 + (1 : Int32))), (5, .long (b30_l5 - r_40.1)), (10, .long r_40.1), (0, .ref a_this), (3, .ref a_p3), (4, .ref a_p4), (7, .int b15_l7)]) hx hb dX1_lay_69 hl (k := 7) rfl rfl (by decide) rfl (fun ls hl => ?_)
                refine lv_goto (tgt := 30) hx hb dX1_lay_72 (by decide) ?_
                exact ih30 (b30_l5 - r_40.1) (b30_l9 + (1 : Int32)) (b30_l9 + 1) r_40.2 h _ _ hP hD hS _ (lv_sub hl [4, 5, 6, 2, 7, 1, 0] rfl)
              · have h := rk_nif hc3 h
                refine lv_goto (tgt := 75) hx hb dX1_lay_53 (by decide) ?_
                exact B75 r_40.2 h _ _ hP hD hS _ (lv_sub hl [1, 2, 3, 4, 5, 6] rfl)
        exact L30 FU b15_l5 (0 : Int32) (0 : Int32) b15_c_p4_letters h _ _ hP hD hS _ (lv_sub hl [2, 3, 4, 5, 6, 1, 0] rfl)
  exact L15 FU v_p1 (0 : Int32) c_p3 r_6 h _ _ hP hD hS _ (lv_sub hl [2, 4, 5, 1, 0] rfl)
