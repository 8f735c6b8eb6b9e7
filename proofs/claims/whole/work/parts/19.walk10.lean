set_option maxHeartbeats 4000000 in
set_option maxRecDepth 100000 in
theorem mtX10_draw (l : Launch) (D : va_G) (cI cJ cO : ClassId) (PL : va_W) (sz : Nat) (a_this : Nat) (a_this_chosen : Nat) (a_this_factorial : Nat) (a_this_catalan : Nat) (a_this_parted : Nat) (a_this_closed : Nat) (f_this_now : Int32) (a_this_of : Nat) (a_this_buffer : Nat) (a_this_made : Nat) (a_this_stackOne : Nat) (a_this_stackOther : Nat) (a_this_stackLong : Nat) (a_this_left : Nat) (f_this_entryMany : Int32) (a_this_entryFamily : Nat) (a_this_entryOf : Nat) (a_this_entryRank : Nat) (c_this_buffer : Nat → Int32) (c_this_left : Nat → Int32) (c_this_made : Nat → Int32) (c_this_stackLong : Nat → Int64) (c_this_stackOne : Nat → Int32) (c_this_catalan : Nat → Int64) (c_this_chosen : Nat → Int64) (c_this_closed : Nat → Int64) (c_this_factorial : Nat → Int64) (c_this_of : Nat → Int32) (c_this_parted : Nat → Int64) (v_p1 : Int64) (r0 : Int64 × (Nat → Int32) × (Nat → Int32) × (Nat → Int32) × (Nat → Int64) × (Nat → Int32)) (h : fX10_draw f_this_now c_this_buffer c_this_left c_this_made c_this_stackLong c_this_stackOne c_this_catalan c_this_chosen c_this_closed c_this_factorial c_this_of c_this_parted v_p1 = some r0) : Met l yX10_draw (rk_w yX10_draw cX10_draw 9 (some .long)) rmX10_draw (va_Pc [.ref a_this, .long v_p1] (rk_B D (rk_TY cI cJ cO) [(a_this_buffer, .inl (cI, 60, .inl c_this_buffer)), (a_this_left, .inl (cI, 4, .inl c_this_left)), (a_this_made, .inl (cI, 60, .inl c_this_made)), (a_this_stackLong, .inl (cJ, 64, .inr (.inl c_this_stackLong))), (a_this_stackOne, .inl (cI, 64, .inl c_this_stackOne))] [(a_this, .inr (9, [.ref a_this_chosen, .ref a_this_factorial, .ref a_this_catalan, .ref a_this_parted, .ref a_this_closed, .int f_this_now, .ref a_this_of, .ref a_this_buffer, .ref a_this_made, .ref a_this_stackOne, .ref a_this_stackOther, .ref a_this_stackLong, .ref a_this_left, .int f_this_entryMany, .ref a_this_entryFamily, .ref a_this_entryOf, .ref a_this_entryRank])), (a_this_catalan, .inl (cJ, 31, .inr (.inl c_this_catalan))), (a_this_chosen, .inl (cJ, 3721, .inr (.inl c_this_chosen))), (a_this_closed, .inl (cJ, 1722, .inr (.inl c_this_closed))), (a_this_factorial, .inl (cJ, 21, .inr (.inl c_this_factorial))), (a_this_of, .inl (cI, 4, .inl c_this_of)), (a_this_parted, .inl (cJ, 3721, .inr (.inl c_this_parted)))] PL sz)) (rk_Ql r0.1 D [(a_this_buffer, .inl (cI, 60, .inl r0.2.1)), (a_this_left, .inl (cI, 4, .inl r0.2.2.1)), (a_this_made, .inl (cI, 60, .inl r0.2.2.2.1)), (a_this_stackLong, .inl (cJ, 64, .inr (.inl r0.2.2.2.2.1))), (a_this_stackOne, .inl (cI, 64, .inl r0.2.2.2.2.2))] [(a_this_buffer, .inl (cI, 60, .inl c_this_buffer)), (a_this_left, .inl (cI, 4, .inl c_this_left)), (a_this_made, .inl (cI, 60, .inl c_this_made)), (a_this_stackLong, .inl (cJ, 64, .inr (.inl c_this_stackLong))), (a_this_stackOne, .inl (cI, 64, .inl c_this_stackOne))] sz) 0 0 (va_A [(a_this_buffer, .inl (cI, 60, .inl c_this_buffer)), (a_this_left, .inl (cI, 4, .inl c_this_left)), (a_this_made, .inl (cI, 60, .inl c_this_made)), (a_this_stackLong, .inl (cJ, 64, .inr (.inl c_this_stackLong))), (a_this_stackOne, .inl (cI, 64, .inl c_this_stackOne))] sz) := by
  refine rk_metl h (fun x : Int64 × (Nat → Int32) × (Nat → Int32) × (Nat → Int32) × (Nat → Int64) × (Nat → Int32) => x.1) (fun x => [(a_this_buffer, .inl (cI, 60, .inl x.2.1)), (a_this_left, .inl (cI, 4, .inl x.2.2.1)), (a_this_made, .inl (cI, 60, .inl x.2.2.2.1)), (a_this_stackLong, .inl (cJ, 64, .inr (.inl x.2.2.2.2.1))), (a_this_stackOne, .inl (cI, 64, .inl x.2.2.2.2.2))]) (by decide) (Nat.le_of_ble_eq_true rfl) ?_
  intro p e s m args below meth c A ls Q hret hname hF hP hD hA hV hR0 hn hPL hnl hl h hS
  have hx := hF.1
  have hb := hF.2.1
  have hml := hF.2.2.1
  have hown : s.vm.findClass RX10 = some m.cls := hF.2.2.2.1
  have htc := hF.2.2.2.2
  have hP : va_P D vwCl [(a_this_buffer, .inl (cI, 60, .inl c_this_buffer)), (a_this_left, .inl (cI, 4, .inl c_this_left)), (a_this_made, .inl (cI, 60, .inl c_this_made)), (a_this_stackLong, .inl (cJ, 64, .inr (.inl c_this_stackLong))), (a_this_stackOne, .inl (cI, 64, .inl c_this_stackOne))] s.heap := hP
  have hD : va_D A [(a_this_buffer, .inl (cI, 60, .inl c_this_buffer)), (a_this_left, .inl (cI, 4, .inl c_this_left)), (a_this_made, .inl (cI, 60, .inl c_this_made)), (a_this_stackLong, .inl (cJ, 64, .inr (.inl c_this_stackLong))), (a_this_stackOne, .inl (cI, 64, .inl c_this_stackOne))] := hD
  have hR0 : va_P D vwCl [(a_this, .inr (9, [.ref a_this_chosen, .ref a_this_factorial, .ref a_this_catalan, .ref a_this_parted, .ref a_this_closed, .int f_this_now, .ref a_this_of, .ref a_this_buffer, .ref a_this_made, .ref a_this_stackOne, .ref a_this_stackOther, .ref a_this_stackLong, .ref a_this_left, .int f_this_entryMany, .ref a_this_entryFamily, .ref a_this_entryOf, .ref a_this_entryRank])), (a_this_catalan, .inl (cJ, 31, .inr (.inl c_this_catalan))), (a_this_chosen, .inl (cJ, 3721, .inr (.inl c_this_chosen))), (a_this_closed, .inl (cJ, 1722, .inr (.inl c_this_closed))), (a_this_factorial, .inl (cJ, 21, .inr (.inl c_this_factorial))), (a_this_of, .inl (cI, 4, .inl c_this_of)), (a_this_parted, .inl (cJ, 3721, .inr (.inl c_this_parted)))] s.heap := hR0
  have hR := hR0
  have hl : lv_has ls 9 [(0, .ref a_this), (1, .long v_p1)] := hl
  unfold fX10_draw at h
  refine lv_lload_n hx hb dX10_draw_0 rfl (lv_at hl 1 rfl) ?_
  refine lv_ldc2 (v := (6364136223846793005 : Int64)) hx hb hown (htc _ w_5_32) dX10_draw_1 ?_
  refine lv_lmul hx hb dX10_draw_4 ?_
  refine lv_ldc2 (v := (1442695040888963407 : Int64)) hx hb hown (htc _ w_5_33) dX10_draw_5 ?_
  refine lv_ladd hx hb dX10_draw_8 ?_
  refine lv_lstore_n (lv' := [(3, .long ((v_p1 * (6364136223846793005 : Int64)) + (1442695040888963407 : Int64))), (0, .ref a_this), (1, .long v_p1)]) hx hb dX10_draw_9 rfl hl (by decide) rfl (fun ls hl => ?_)
  refine lv_lload_n hx hb dX10_draw_10 rfl (lv_at hl 0 rfl) ?_
  refine lv_lload_n hx hb dX10_draw_11 rfl (lv_at hl 0 rfl) ?_
  refine lv_bipush (v := 33) hx hb dX10_draw_12 (by decide) ?_
  refine lv_lushr hx hb dX10_draw_14 rfl ?_
  refine lv_lxor hx hb dX10_draw_15 ?_
  refine lv_lstore (lv' := [(5, .long (((v_p1 * (6364136223846793005 : Int64)) + (1442695040888963407 : Int64)) ^^^ (((v_p1 * (6364136223846793005 : Int64)) + (1442695040888963407 : Int64)).toUInt64 >>> ((33 : Int32).toInt64.toUInt64 &&& Int64.toUInt64 63)).toInt64)), (3, .long ((v_p1 * (6364136223846793005 : Int64)) + (1442695040888963407 : Int64))), (0, .ref a_this), (1, .long v_p1)]) hx hb dX10_draw_16 hl (by decide) rfl (fun ls hl => ?_)
  refine lv_lload hx hb dX10_draw_18 (lv_at hl 0 rfl) ?_
  refine lv_iconst (v := 1) hx hb dX10_draw_20 (by decide) ?_
  refine lv_lushr hx hb dX10_draw_21 rfl ?_
  refine lv_aload_n hx hb dX10_draw_22 rfl (lv_at hl 2 rfl) ?_
  obtain ⟨r_23, hc_23, h⟩ := rk_bd h
  refine rk_l (wr := [(a_this_buffer, .inl (cI, 60, .inl c_this_buffer)), (a_this_left, .inl (cI, 4, .inl c_this_left)), (a_this_made, .inl (cI, 60, .inl c_this_made)), (a_this_stackLong, .inl (cJ, 64, .inr (.inl c_this_stackLong))), (a_this_stackOne, .inl (cI, 64, .inl c_this_stackOne))]) (va_runV (C := RX10) (As := []) (rest := [.long ((((v_p1 * (6364136223846793005 : Int64)) + (1442695040888963407 : Int64)) ^^^ (((v_p1 * (6364136223846793005 : Int64)) + (1442695040888963407 : Int64)).toUInt64 >>> ((33 : Int32).toInt64.toUInt64 &&& Int64.toUInt64 63)).toInt64).toUInt64 >>> ((1 : Int32).toInt64.toUInt64 &&& Int64.toUInt64 63)).toInt64]) hF (mtX10_manyNow l D cI cJ cO PL _ a_this a_this_chosen a_this_factorial a_this_catalan a_this_parted a_this_closed f_this_now a_this_of a_this_buffer a_this_made a_this_stackOne a_this_stackOther a_this_stackLong a_this_left f_this_entryMany a_this_entryFamily a_this_entryOf a_this_entryRank c_this_catalan c_this_chosen c_this_closed c_this_factorial c_this_of c_this_parted r_23 hc_23) (cwV 0 htc (rk_gV w_4_166 w_4_168 ws_52 w_1_7 w_4_169) rfl rfl rfl (by decide +kernel) ⟨(Nat.le_of_ble_eq_true rfl), (Nat.le_of_ble_eq_true rfl)⟩) (rk_preV (va_recv hV.1 hR (ci := 9) (q0 := 0) rfl rfl) (rk_preS hP hD hS hR hn hPL hnl hV [] [(false, 0), (false, 1), (false, 2), (false, 3), (false, 4), (false, 5), (false, 6)] rfl (by decide) rfl (by decide))) rfl rfl hl.1 rfl (lv_room (Nat.le_of_ble_eq_true rfl)) dX10_draw_23 ⟨(Nat.le_of_ble_eq_true rfl), (Nat.le_of_ble_eq_true rfl)⟩) hP hD hS hA hR0 hn [] [0, 1, 2, 3, 4] rfl rfl (by decide) (by decide) (fun H locs hP hD hS hR => ?_)
  have hP : va_P D vwCl [(a_this_buffer, .inl (cI, 60, .inl c_this_buffer)), (a_this_left, .inl (cI, 4, .inl c_this_left)), (a_this_made, .inl (cI, 60, .inl c_this_made)), (a_this_stackLong, .inl (cJ, 64, .inr (.inl c_this_stackLong))), (a_this_stackOne, .inl (cI, 64, .inl c_this_stackOne))] H := hP
  have hD : va_D A [(a_this_buffer, .inl (cI, 60, .inl c_this_buffer)), (a_this_left, .inl (cI, 4, .inl c_this_left)), (a_this_made, .inl (cI, 60, .inl c_this_made)), (a_this_stackLong, .inl (cJ, 64, .inr (.inl c_this_stackLong))), (a_this_stackOne, .inl (cI, 64, .inl c_this_stackOne))] := hD
  obtain ⟨hz1, h⟩ := rk_gd h
  refine lv_lrem hx hb dX10_draw_26 hz1 ?_
  refine lv_lstore (lv' := [(7, .long (((((v_p1 * (6364136223846793005 : Int64)) + (1442695040888963407 : Int64)) ^^^ (((v_p1 * (6364136223846793005 : Int64)) + (1442695040888963407 : Int64)).toUInt64 >>> ((33 : Int32).toInt64.toUInt64 &&& Int64.toUInt64 63)).toInt64).toUInt64 >>> ((1 : Int32).toInt64.toUInt64 &&& Int64.toUInt64 63)).toInt64 - ((((v_p1 * (6364136223846793005 : Int64)) + (1442695040888963407 : Int64)) ^^^ (((v_p1 * (6364136223846793005 : Int64)) + (1442695040888963407 : Int64)).toUInt64 >>> ((33 : Int32).toInt64.toUInt64 &&& Int64.toUInt64 63)).toInt64).toUInt64 >>> ((1 : Int32).toInt64.toUInt64 &&& Int64.toUInt64 63)).toInt64 / r_23 * r_23)), (5, .long (((v_p1 * (6364136223846793005 : Int64)) + (1442695040888963407 : Int64)) ^^^ (((v_p1 * (6364136223846793005 : Int64)) + (1442695040888963407 : Int64)).toUInt64 >>> ((33 : Int32).toInt64.toUInt64 &&& Int64.toUInt64 63)).toInt64)), (3, .long ((v_p1 * (6364136223846793005 : Int64)) + (1442695040888963407 : Int64))), (0, .ref a_this), (1, .long v_p1)]) hx hb dX10_draw_27 hl (by decide) rfl (fun ls hl => ?_)
  refine lv_aload_n hx hb dX10_draw_29 rfl (lv_at hl 3 rfl) ?_
  refine lv_lload hx hb dX10_draw_30 (lv_at hl 0 rfl) ?_
  obtain ⟨r_32, hc_32, h⟩ := rk_bd h
  refine rk_v (wr := [(a_this_buffer, .inl (cI, 60, .inl c_this_buffer))]) (va_runV (C := RX10) (As := [.long (((((v_p1 * (6364136223846793005 : Int64)) + (1442695040888963407 : Int64)) ^^^ (((v_p1 * (6364136223846793005 : Int64)) + (1442695040888963407 : Int64)).toUInt64 >>> ((33 : Int32).toInt64.toUInt64 &&& Int64.toUInt64 63)).toInt64).toUInt64 >>> ((1 : Int32).toInt64.toUInt64 &&& Int64.toUInt64 63)).toInt64 - ((((v_p1 * (6364136223846793005 : Int64)) + (1442695040888963407 : Int64)) ^^^ (((v_p1 * (6364136223846793005 : Int64)) + (1442695040888963407 : Int64)).toUInt64 >>> ((33 : Int32).toInt64.toUInt64 &&& Int64.toUInt64 63)).toInt64).toUInt64 >>> ((1 : Int32).toInt64.toUInt64 &&& Int64.toUInt64 63)).toInt64 / r_23 * r_23)]) (rest := []) hF (mtX10_makes l D cI cJ cO PL _ a_this a_this_chosen a_this_factorial a_this_catalan a_this_parted a_this_closed f_this_now a_this_of a_this_buffer a_this_made a_this_stackOne a_this_stackOther a_this_stackLong a_this_left f_this_entryMany a_this_entryFamily a_this_entryOf a_this_entryRank c_this_left c_this_made c_this_stackLong c_this_stackOne c_this_catalan c_this_chosen c_this_closed c_this_of c_this_parted (((((v_p1 * (6364136223846793005 : Int64)) + (1442695040888963407 : Int64)) ^^^ (((v_p1 * (6364136223846793005 : Int64)) + (1442695040888963407 : Int64)).toUInt64 >>> ((33 : Int32).toInt64.toUInt64 &&& Int64.toUInt64 63)).toInt64).toUInt64 >>> ((1 : Int32).toInt64.toUInt64 &&& Int64.toUInt64 63)).toInt64 - ((((v_p1 * (6364136223846793005 : Int64)) + (1442695040888963407 : Int64)) ^^^ (((v_p1 * (6364136223846793005 : Int64)) + (1442695040888963407 : Int64)).toUInt64 >>> ((33 : Int32).toInt64.toUInt64 &&& Int64.toUInt64 63)).toInt64).toUInt64 >>> ((1 : Int32).toInt64.toUInt64 &&& Int64.toUInt64 63)).toInt64 / r_23 * r_23) r_32 hc_32) (cwV 1 htc (rk_gV w_4_67 w_4_69 ws_37 w_1_7 w_4_70) rfl rfl rfl (by decide +kernel) ⟨(Nat.le_of_ble_eq_true rfl), (Nat.le_of_ble_eq_true rfl)⟩) (rk_preV (va_recv hV.1 hR (ci := 9) (q0 := 0) rfl rfl) (rk_preS hP hD hS hR hn hPL hnl hV [1, 2, 3, 4] [(false, 0), (false, 1), (false, 2), (false, 3), (false, 5), (false, 6)] rfl (by decide) rfl (by decide))) rfl rfl hl.1 rfl (lv_room (Nat.le_of_ble_eq_true rfl)) dX10_draw_32 ⟨(Nat.le_of_ble_eq_true rfl), (Nat.le_of_ble_eq_true rfl)⟩) hP hD hS hA hR0 hn [1, 2, 3, 4] [0] rfl rfl (by decide) (by decide) (fun H locs hP hD hS hR => ?_)
  have hP : va_P D vwCl [(a_this_buffer, .inl (cI, 60, .inl c_this_buffer)), (a_this_left, .inl (cI, 4, .inl r_32.1)), (a_this_made, .inl (cI, 60, .inl r_32.2.1)), (a_this_stackLong, .inl (cJ, 64, .inr (.inl r_32.2.2.1))), (a_this_stackOne, .inl (cI, 64, .inl r_32.2.2.2))] H := hP
  have hD : va_D A [(a_this_buffer, .inl (cI, 60, .inl c_this_buffer)), (a_this_left, .inl (cI, 4, .inl r_32.1)), (a_this_made, .inl (cI, 60, .inl r_32.2.1)), (a_this_stackLong, .inl (cJ, 64, .inr (.inl r_32.2.2.1))), (a_this_stackOne, .inl (cI, 64, .inl r_32.2.2.2))] := hD
  refine lv_aload_n hx hb dX10_draw_35 rfl (lv_at hl 3 rfl) ?_
  obtain ⟨r_36, hc_36, h⟩ := rk_bd h
  refine rk_i (wr := [(a_this_left, .inl (cI, 4, .inl r_32.1)), (a_this_made, .inl (cI, 60, .inl r_32.2.1)), (a_this_stackLong, .inl (cJ, 64, .inr (.inl r_32.2.2.1))), (a_this_stackOne, .inl (cI, 64, .inl r_32.2.2.2))]) (va_runV (C := RX10) (As := []) (rest := []) hF (mtX10_stores l D cI cJ cO PL _ a_this a_this_chosen a_this_factorial a_this_catalan a_this_parted a_this_closed f_this_now a_this_of a_this_buffer a_this_made a_this_stackOne a_this_stackOther a_this_stackLong a_this_left f_this_entryMany a_this_entryFamily a_this_entryOf a_this_entryRank c_this_buffer r_32.2.1 c_this_of r_36 hc_36) (cwV 0 htc (rk_gV w_4_123 w_4_125 ws_51 w_1_7 w_4_126) rfl rfl rfl (by decide +kernel) ⟨(Nat.le_of_ble_eq_true rfl), (Nat.le_of_ble_eq_true rfl)⟩) (rk_preV (va_recv hV.1 hR (ci := 9) (q0 := 0) rfl rfl) (rk_preS hP hD hS hR hn hPL hnl hV [0] [(false, 0), (true, 2), (false, 5)] rfl (by decide) rfl (by decide))) rfl rfl hl.1 rfl (lv_room (Nat.le_of_ble_eq_true rfl)) dX10_draw_36 ⟨(Nat.le_of_ble_eq_true rfl), (Nat.le_of_ble_eq_true rfl)⟩) hP hD hS hA hR0 hn [0] [1, 2, 3, 4] rfl rfl (by decide) (by decide) (fun H locs hP hD hS hR => ?_)
  have hP : va_P D vwCl [(a_this_left, .inl (cI, 4, .inl r_32.1)), (a_this_made, .inl (cI, 60, .inl r_32.2.1)), (a_this_stackLong, .inl (cJ, 64, .inr (.inl r_32.2.2.1))), (a_this_stackOne, .inl (cI, 64, .inl r_32.2.2.2)), (a_this_buffer, .inl (cI, 60, .inl r_36.2))] H := hP
  have hD : va_D A [(a_this_left, .inl (cI, 4, .inl r_32.1)), (a_this_made, .inl (cI, 60, .inl r_32.2.1)), (a_this_stackLong, .inl (cJ, 64, .inr (.inl r_32.2.2.1))), (a_this_stackOne, .inl (cI, 64, .inl r_32.2.2.2)), (a_this_buffer, .inl (cI, 60, .inl r_36.2))] := hD
  refine lv_pop hx hb dX10_draw_39 rfl ?_
  refine lv_lload hx hb dX10_draw_40 (lv_at hl 0 rfl) ?_
  exact hret ((((((v_p1 * (6364136223846793005 : Int64)) + (1442695040888963407 : Int64)) ^^^ (((v_p1 * (6364136223846793005 : Int64)) + (1442695040888963407 : Int64)).toUInt64 >>> ((33 : Int32).toInt64.toUInt64 &&& Int64.toUInt64 63)).toInt64).toUInt64 >>> ((1 : Int32).toInt64.toUInt64 &&& Int64.toUInt64 63)).toInt64 - ((((v_p1 * (6364136223846793005 : Int64)) + (1442695040888963407 : Int64)) ^^^ (((v_p1 * (6364136223846793005 : Int64)) + (1442695040888963407 : Int64)).toUInt64 >>> ((33 : Int32).toInt64.toUInt64 &&& Int64.toUInt64 63)).toInt64).toUInt64 >>> ((1 : Int32).toInt64.toUInt64 &&& Int64.toUInt64 63)).toInt64 / r_23 * r_23), r_36.2, r_32.1, r_32.2.1, r_32.2.2.1, r_32.2.2.2) _ _ _ _ h dX10_draw_42 (hP.sub [4, 0, 1, 2, 3] rfl) (hD.sub [4, 0, 1, 2, 3] (by decide) rfl) hS
set_option maxHeartbeats 4000000 in
set_option maxRecDepth 100000 in
theorem mtX10_complements (l : Launch) (D : va_G) (cI cJ cO : ClassId) (PL : va_W) (sz : Nat) (a_this : Nat) (a_this_chosen : Nat) (a_this_factorial : Nat) (a_this_catalan : Nat) (a_this_parted : Nat) (a_this_closed : Nat) (f_this_now : Int32) (a_this_of : Nat) (a_this_buffer : Nat) (a_this_made : Nat) (a_this_stackOne : Nat) (a_this_stackOther : Nat) (a_this_stackLong : Nat) (a_this_left : Nat) (f_this_entryMany : Int32) (a_this_entryFamily : Nat) (a_this_entryOf : Nat) (a_this_entryRank : Nat) (c_this_buffer : Nat → Int32) (c_this_made : Nat → Int32) (c_this_of : Nat → Int32) (r0 : Int32 × (Nat → Int32) × (Nat → Int32) × (Nat → Int32)) (h : fX10_complements f_this_now c_this_buffer c_this_made c_this_of = some r0) : Met l yX10_complements (rk_w yX10_complements cX10_complements 6 (some .boolean)) rmX10_complements (va_Pc [.ref a_this] (rk_B D (rk_TY cI cJ cO) [(a_this_buffer, .inl (cI, 60, .inl c_this_buffer)), (a_this_made, .inl (cI, 60, .inl c_this_made)), (a_this_of, .inl (cI, 4, .inl c_this_of))] [(a_this, .inr (9, [.ref a_this_chosen, .ref a_this_factorial, .ref a_this_catalan, .ref a_this_parted, .ref a_this_closed, .int f_this_now, .ref a_this_of, .ref a_this_buffer, .ref a_this_made, .ref a_this_stackOne, .ref a_this_stackOther, .ref a_this_stackLong, .ref a_this_left, .int f_this_entryMany, .ref a_this_entryFamily, .ref a_this_entryOf, .ref a_this_entryRank]))] PL sz)) (rk_Qi r0.1 D [(a_this_buffer, .inl (cI, 60, .inl r0.2.1)), (a_this_made, .inl (cI, 60, .inl r0.2.2.1)), (a_this_of, .inl (cI, 4, .inl r0.2.2.2))] [(a_this_buffer, .inl (cI, 60, .inl c_this_buffer)), (a_this_made, .inl (cI, 60, .inl c_this_made)), (a_this_of, .inl (cI, 4, .inl c_this_of))] sz) 0 0 (va_A [(a_this_buffer, .inl (cI, 60, .inl c_this_buffer)), (a_this_made, .inl (cI, 60, .inl c_this_made)), (a_this_of, .inl (cI, 4, .inl c_this_of))] sz) := by
  refine rk_metz h (fun x : Int32 × (Nat → Int32) × (Nat → Int32) × (Nat → Int32) => x.1) (fun x => [(a_this_buffer, .inl (cI, 60, .inl x.2.1)), (a_this_made, .inl (cI, 60, .inl x.2.2.1)), (a_this_of, .inl (cI, 4, .inl x.2.2.2))]) (by decide) (Nat.le_of_ble_eq_true rfl) ?_
  intro p e s m args below meth c A ls Q hret hname hF hP hD hA hV hR0 hn hPL hnl hl h hS
  have hx := hF.1
  have hb := hF.2.1
  have hml := hF.2.2.1
  have hown : s.vm.findClass RX10 = some m.cls := hF.2.2.2.1
  have htc := hF.2.2.2.2
  have hP : va_P D vwCl [(a_this_buffer, .inl (cI, 60, .inl c_this_buffer)), (a_this_made, .inl (cI, 60, .inl c_this_made)), (a_this_of, .inl (cI, 4, .inl c_this_of))] s.heap := hP
  have hD : va_D A [(a_this_buffer, .inl (cI, 60, .inl c_this_buffer)), (a_this_made, .inl (cI, 60, .inl c_this_made)), (a_this_of, .inl (cI, 4, .inl c_this_of))] := hD
  have hR0 : va_P D vwCl [(a_this, .inr (9, [.ref a_this_chosen, .ref a_this_factorial, .ref a_this_catalan, .ref a_this_parted, .ref a_this_closed, .int f_this_now, .ref a_this_of, .ref a_this_buffer, .ref a_this_made, .ref a_this_stackOne, .ref a_this_stackOther, .ref a_this_stackLong, .ref a_this_left, .int f_this_entryMany, .ref a_this_entryFamily, .ref a_this_entryOf, .ref a_this_entryRank]))] s.heap := hR0
  have hR := hR0
  have hl : lv_has ls 6 [(0, .ref a_this)] := hl
  unfold fX10_complements at h
  refine lv_aload_n hx hb dX10_complements_0 rfl (lv_at hl 0 rfl) ?_
  refine va_get (D := D) (ci := 9) (v := .ref a_this_of) (C := RX10) (T := TX10) (N := 17) hx hb htc inX10 hown hV.1 hR 0 rfl rfl 6 (by decide) (htc _ w_4_4) (fun _ h9 => h9) rfl dX10_complements_1 ?_
  refine lv_iconst (v := 0) hx hb dX10_complements_4 (by decide) ?_
  refine va_iald hx hb hV.1 hP 2 0 rfl rfl (show vp_in (0 : Int32) 4 from (by decide : ¬ ((0 : Int32) < 0 ∨ 4 ≤ (0 : Int32).toNatClampNeg))) dX10_complements_5 ?_
  refine W.eq (g2 := F0 m 6 ls [.int (c_this_of 0)]) rfl ?_
  refine lv_istore_n (lv' := [(1, .int (c_this_of 0)), (0, .ref a_this)]) hx hb dX10_complements_6 rfl hl (by decide) rfl (fun ls hl => ?_)
  refine lv_aload_n hx hb dX10_complements_7 rfl (lv_at hl 1 rfl) ?_
  refine va_get (D := D) (ci := 9) (v := .ref a_this_of) (C := RX10) (T := TX10) (N := 17) hx hb htc inX10 hown hV.1 hR 0 rfl rfl 6 (by decide) (htc _ w_4_4) (fun _ h9 => h9) rfl dX10_complements_8 ?_
  refine lv_iconst (v := 1) hx hb dX10_complements_11 (by decide) ?_
  refine va_iald hx hb hV.1 hP 2 0 rfl rfl (show vp_in (1 : Int32) 4 from (by decide : ¬ ((1 : Int32) < 0 ∨ 4 ≤ (1 : Int32).toNatClampNeg))) dX10_complements_12 ?_
  refine W.eq (g2 := F0 m 13 ls [.int (c_this_of 1)]) rfl ?_
  refine lv_istore_n (lv' := [(2, .int (c_this_of 1)), (1, .int (c_this_of 0)), (0, .ref a_this)]) hx hb dX10_complements_13 rfl hl (by decide) rfl (fun ls hl => ?_)
  refine lv_iconst (v := 0) hx hb dX10_complements_14 (by decide) ?_
  refine lv_istore_n (lv' := [(3, .int (0 : Int32)), (2, .int (c_this_of 1)), (1, .int (c_this_of 0)), (0, .ref a_this)]) hx hb dX10_complements_15 rfl hl (by decide) rfl (fun ls hl => ?_)
  refine lv_iconst (v := 0) hx hb dX10_complements_16 (by decide) ?_
  refine lv_istore (lv' := [(4, .int (0 : Int32)), (3, .int (0 : Int32)), (2, .int (c_this_of 1)), (1, .int (c_this_of 0)), (0, .ref a_this)]) hx hb dX10_complements_17 hl (by decide) rfl (fun ls hl => ?_)
  refine lv_iconst (v := 0) hx hb dX10_complements_19 (by decide) ?_
  refine lv_istore (lv' := [(5, .int (0 : Int32)), (4, .int (0 : Int32)), (3, .int (0 : Int32)), (2, .int (c_this_of 1)), (1, .int (c_this_of 0)), (0, .ref a_this)]) hx hb dX10_complements_20 hl (by decide) rfl (fun ls hl => ?_)
  have L22 : ∀ (n22 : Nat) (b22_l3 : Int32) (b22_l4 : Int32) (b22_l5 : Int32) (b22_c_this_made : Nat → Int32), rk_it4 (fX10_complements_L22 f_this_now c_this_buffer c_this_of) n22 b22_l3 b22_l4 b22_l5 b22_c_this_made = some r0 → ∀ (H : Heap) (locs : List Loc), va_P D vwCl [(a_this_buffer, .inl (cI, 60, .inl c_this_buffer)), (a_this_made, .inl (cI, 60, .inl b22_c_this_made)), (a_this_of, .inl (cI, 4, .inl c_this_of))] H → va_D A [(a_this_buffer, .inl (cI, 60, .inl c_this_buffer)), (a_this_made, .inl (cI, 60, .inl b22_c_this_made)), (a_this_of, .inl (cI, 4, .inl c_this_of))] → va_S A s.heap H locs → ∀ (ls : Array Slot), lv_has ls 6 [(0, .ref a_this), (1, .int (c_this_of 0)), (2, .int (c_this_of 1)), (3, .int b22_l3), (4, .int b22_l4), (5, .int b22_l5)] → W p l e rmX10_complements s m args below meth c H locs 0 0 Q (F0 m 22 ls []) := by
    intro n22
    induction n22 with
    | zero => intro b22_l3 b22_l4 b22_l5 b22_c_this_made h; exact rk_no h
    | succ n22 ih22 =>
      intro b22_l3 b22_l4 b22_l5 b22_c_this_made h H locs hP hD hS ls hl
      have h : fX10_complements_L22 f_this_now c_this_buffer c_this_of (rk_it4 (fX10_complements_L22 f_this_now c_this_buffer c_this_of) n22) b22_l3 b22_l4 b22_l5 b22_c_this_made = some r0 := h
      unfold fX10_complements_L22 at h
      have hR := rk_keep hR0 hn hS
      refine lv_iload hx hb dX10_complements_22 (lv_at hl 5 rfl) ?_
      refine lv_iload_n hx hb dX10_complements_24 rfl (lv_at hl 1 rfl) ?_
      refine lv_icmp_ge (tgt := 69) hx hb dX10_complements_25 (by decide) (fun hc1 => ?_) (fun hc1 => ?_)
      · have h := rk_if hc1 h
        refine lv_aload_n hx hb dX10_complements_69 rfl (lv_at hl 0 rfl) ?_
        refine va_get (D := D) (ci := 9) (v := .ref a_this_of) (C := RX10) (T := TX10) (N := 17) hx hb htc inX10 hown hV.1 hR 0 rfl rfl 6 (by decide) (htc _ w_4_4) (fun _ h9 => h9) rfl dX10_complements_70 ?_
        refine lv_iconst (v := 1) hx hb dX10_complements_73 (by decide) ?_
        refine lv_iload_n hx hb dX10_complements_74 rfl (lv_at hl 1 rfl) ?_
        refine lv_iload_n hx hb dX10_complements_75 rfl (lv_at hl 2 rfl) ?_
        refine lv_isub hx hb dX10_complements_76 ?_
        refine va_iast hx hb hV.1 hP hD hS 2 0 rfl rfl (show vp_in (1 : Int32) 4 from (by decide : ¬ ((1 : Int32) < 0 ∨ 4 ≤ (1 : Int32).toNatClampNeg))) dX10_complements_77 (fun H locs hP hD hS => ?_)
        have hP : va_P D vwCl [(a_this_buffer, .inl (cI, 60, .inl c_this_buffer)), (a_this_made, .inl (cI, 60, .inl b22_c_this_made)), (a_this_of, .inl (cI, 4, .inl (upd c_this_of 1 ((c_this_of 0) - (c_this_of 1)))))] H := hP
        have hD : va_D A [(a_this_buffer, .inl (cI, 60, .inl c_this_buffer)), (a_this_made, .inl (cI, 60, .inl b22_c_this_made)), (a_this_of, .inl (cI, 4, .inl (upd c_this_of 1 ((c_this_of 0) - (c_this_of 1)))))] := hD
        have hR := rk_keep hR0 hn hS
        refine lv_aload_n hx hb dX10_complements_78 rfl (lv_at hl 0 rfl) ?_
        obtain ⟨r_79, hc_79, h⟩ := rk_bd h
        refine rk_i (wr := [(a_this_made, .inl (cI, 60, .inl b22_c_this_made)), (a_this_of, .inl (cI, 4, .inl (upd c_this_of 1 ((c_this_of 0) - (c_this_of 1)))))]) (va_runV (C := RX10) (As := []) (rest := []) hF (mtX10_stores l D cI cJ cO PL _ a_this a_this_chosen a_this_factorial a_this_catalan a_this_parted a_this_closed f_this_now a_this_of a_this_buffer a_this_made a_this_stackOne a_this_stackOther a_this_stackLong a_this_left f_this_entryMany a_this_entryFamily a_this_entryOf a_this_entryRank c_this_buffer b22_c_this_made (upd c_this_of 1 ((c_this_of 0) - (c_this_of 1))) r_79 hc_79) (cwV 0 htc (rk_gV w_4_123 w_4_125 ws_51 w_1_7 w_4_126) rfl rfl rfl (by decide +kernel) ⟨(Nat.le_of_ble_eq_true rfl), (Nat.le_of_ble_eq_true rfl)⟩) (rk_preV (va_recv hV.1 hR (ci := 9) (q0 := 0) rfl rfl) (rk_preS hP hD hS hR hn hPL hnl hV [0] [(false, 0), (true, 1), (true, 2)] rfl (by decide) rfl (by decide))) rfl rfl hl.1 rfl (lv_room (Nat.le_of_ble_eq_true rfl)) dX10_complements_79 ⟨(Nat.le_of_ble_eq_true rfl), (Nat.le_of_ble_eq_true rfl)⟩) hP hD hS hA hR0 hn [0] [1, 2] rfl rfl (by decide) (by decide) (fun H locs hP hD hS hR => ?_)
        have hP : va_P D vwCl [(a_this_made, .inl (cI, 60, .inl b22_c_this_made)), (a_this_of, .inl (cI, 4, .inl (upd c_this_of 1 ((c_this_of 0) - (c_this_of 1))))), (a_this_buffer, .inl (cI, 60, .inl r_79.2))] H := hP
        have hD : va_D A [(a_this_made, .inl (cI, 60, .inl b22_c_this_made)), (a_this_of, .inl (cI, 4, .inl (upd c_this_of 1 ((c_this_of 0) - (c_this_of 1))))), (a_this_buffer, .inl (cI, 60, .inl r_79.2))] := hD
        refine lv_istore (lv' := [(5, .int r_79.1), (0, .ref a_this), (1, .int (c_this_of 0)), (2, .int (c_this_of 1)), (3, .int b22_l3), (4, .int b22_l4)]) hx hb dX10_complements_82 hl (by decide) rfl (fun ls hl => ?_)
        refine lv_iload hx hb dX10_complements_84 (lv_at hl 0 rfl) ?_
        have B96 : fX10_complements_B96 c_this_of b22_c_this_made r_79 = some r0 → ∀ (H : Heap) (locs : List Loc), va_P D vwCl [(a_this_made, .inl (cI, 60, .inl b22_c_this_made)), (a_this_of, .inl (cI, 4, .inl (upd c_this_of 1 ((c_this_of 0) - (c_this_of 1))))), (a_this_buffer, .inl (cI, 60, .inl r_79.2))] H → va_D A [(a_this_made, .inl (cI, 60, .inl b22_c_this_made)), (a_this_of, .inl (cI, 4, .inl (upd c_this_of 1 ((c_this_of 0) - (c_this_of 1))))), (a_this_buffer, .inl (cI, 60, .inl r_79.2))] → va_S A s.heap H locs → ∀ (ls : Array Slot), lv_has ls 6 [] → W p l e rmX10_complements s m args below meth c H locs 0 0 Q (F0 m 96 ls []) := by
          intro  h H locs hP hD hS ls hl
          unfold fX10_complements_B96 at h
          have hR := rk_keep hR0 hn hS
          refine lv_iconst (v := 1) hx hb dX10_complements_96 (by decide) ?_
          refine lv_goto (tgt := 101) hx hb dX10_complements_97 (by decide) ?_
          exact hret ((1 : Int32), r_79.2, b22_c_this_made, (upd c_this_of 1 ((c_this_of 0) - (c_this_of 1)))) _ _ _ _ h rk_nb1 dX10_complements_101 (hP.sub [2, 0, 1] rfl) (hD.sub [2, 0, 1] (by decide) rfl) hS
        refine lv_if_ne (tgt := 96) hx hb dX10_complements_86 (by decide) (fun hc2 => ?_) (fun hc2 => ?_)
        · have h := rk_if hc2 h
          exact B96  h _ _ hP hD hS _ (lv_sub hl [] rfl)
        · have h := rk_nnif hc2 h
          refine lv_iload_n hx hb dX10_complements_89 rfl (lv_at hl 3 rfl) ?_
          refine lv_iload_n hx hb dX10_complements_90 rfl (lv_at hl 2 rfl) ?_
          refine lv_iload_n hx hb dX10_complements_91 rfl (lv_at hl 3 rfl) ?_
          refine lv_isub hx hb dX10_complements_92 ?_
          refine lv_icmp_eq (tgt := 100) hx hb dX10_complements_93 (by decide) (fun hc3 => ?_) (fun hc3 => ?_)
          · have h := rk_if hc3 h
            refine lv_iconst (v := 0) hx hb dX10_complements_100 (by decide) ?_
            exact hret ((0 : Int32), r_79.2, b22_c_this_made, (upd c_this_of 1 ((c_this_of 0) - (c_this_of 1)))) _ _ _ _ h rk_nb0 dX10_complements_101 (hP.sub [2, 0, 1] rfl) (hD.sub [2, 0, 1] (by decide) rfl) hS
          · have h := rk_nif hc3 h
            exact B96  h _ _ hP hD hS _ (lv_sub hl [] rfl)
      · have h := rk_nif hc1 h
        refine lv_iload hx hb dX10_complements_28 (lv_at hl 4 rfl) ?_
        refine lv_iload_n hx hb dX10_complements_30 rfl (lv_at hl 2 rfl) ?_
        have B63 : ∀ (b63_l3 : Int32) (b63_l4 : Int32) (b63_c_this_made : Nat → Int32), fX10_complements_B63 b22_l5 (rk_it4 (fX10_complements_L22 f_this_now c_this_buffer c_this_of) n22) b63_l3 b63_l4 b63_c_this_made = some r0 → ∀ (H : Heap) (locs : List Loc), va_P D vwCl [(a_this_buffer, .inl (cI, 60, .inl c_this_buffer)), (a_this_made, .inl (cI, 60, .inl b63_c_this_made)), (a_this_of, .inl (cI, 4, .inl c_this_of))] H → va_D A [(a_this_buffer, .inl (cI, 60, .inl c_this_buffer)), (a_this_made, .inl (cI, 60, .inl b63_c_this_made)), (a_this_of, .inl (cI, 4, .inl c_this_of))] → va_S A s.heap H locs → ∀ (ls : Array Slot), lv_has ls 6 [(0, .ref a_this), (1, .int (c_this_of 0)), (2, .int (c_this_of 1)), (3, .int b63_l3), (4, .int b63_l4), (5, .int b22_l5)] → W p l e rmX10_complements s m args below meth c H locs 0 0 Q (F0 m 63 ls []) := by
          intro b63_l3 b63_l4 b63_c_this_made h H locs hP hD hS ls hl
          unfold fX10_complements_B63 at h
          have hR := rk_keep hR0 hn hS
          refine lv_iinc (v := (b22_l5 + 1)) (lv' := [(5, .int (b22_l5 + 1)), (0, .ref a_this), (1, .int (c_this_of 0)), (2, .int (c_this_of 1)), (3, .int b63_l3), (4, .int b63_l4)]) hx hb dX10_complements_63 hl (k := 5) rfl rfl (by decide) rfl (fun ls hl => ?_)
          refine lv_goto (tgt := 22) hx hb dX10_complements_66 (by decide) ?_
          exact ih22 b63_l3 b63_l4 (b22_l5 + 1) b63_c_this_made h _ _ hP hD hS _ (lv_sub hl [1, 2, 3, 4, 5, 0] rfl)
        have B52 : fX10_complements_B52 b22_l3 b22_l4 b22_l5 b22_c_this_made (rk_it4 (fX10_complements_L22 f_this_now c_this_buffer c_this_of) n22) = some r0 → ∀ (H : Heap) (locs : List Loc), va_P D vwCl [(a_this_buffer, .inl (cI, 60, .inl c_this_buffer)), (a_this_made, .inl (cI, 60, .inl b22_c_this_made)), (a_this_of, .inl (cI, 4, .inl c_this_of))] H → va_D A [(a_this_buffer, .inl (cI, 60, .inl c_this_buffer)), (a_this_made, .inl (cI, 60, .inl b22_c_this_made)), (a_this_of, .inl (cI, 4, .inl c_this_of))] → va_S A s.heap H locs → ∀ (ls : Array Slot), lv_has ls 6 [(0, .ref a_this), (1, .int (c_this_of 0)), (2, .int (c_this_of 1)), (3, .int b22_l3), (4, .int b22_l4), (5, .int b22_l5)] → W p l e rmX10_complements s m args below meth c H locs 0 0 Q (F0 m 52 ls []) := by
          intro  h H locs hP hD hS ls hl
          unfold fX10_complements_B52 at h
          have hR := rk_keep hR0 hn hS
          refine lv_aload_n hx hb dX10_complements_52 rfl (lv_at hl 0 rfl) ?_
          refine va_get (D := D) (ci := 9) (v := .ref a_this_made) (C := RX10) (T := TX10) (N := 17) hx hb htc inX10 hown hV.1 hR 0 rfl rfl 8 (by decide) (htc _ w_4_6) (fun _ h9 => h9) rfl dX10_complements_53 ?_
          refine lv_iload_n hx hb dX10_complements_56 rfl (lv_at hl 3 rfl) ?_
          refine lv_iload hx hb dX10_complements_57 (lv_at hl 5 rfl) ?_
          obtain ⟨hg4, h⟩ := rk_gd h
          refine va_iast hx hb hV.1 hP hD hS 1 0 rfl rfl hg4 dX10_complements_59 (fun H locs hP hD hS => ?_)
          have hP : va_P D vwCl [(a_this_buffer, .inl (cI, 60, .inl c_this_buffer)), (a_this_made, .inl (cI, 60, .inl (upd b22_c_this_made b22_l3.toNatClampNeg b22_l5))), (a_this_of, .inl (cI, 4, .inl c_this_of))] H := hP
          have hD : va_D A [(a_this_buffer, .inl (cI, 60, .inl c_this_buffer)), (a_this_made, .inl (cI, 60, .inl (upd b22_c_this_made b22_l3.toNatClampNeg b22_l5))), (a_this_of, .inl (cI, 4, .inl c_this_of))] := hD
          have hR := rk_keep hR0 hn hS
          refine lv_iinc (v := (b22_l3 + 1)) (lv' := [(3, .int (b22_l3 + 1)), (0, .ref a_this), (1, .int (c_this_of 0)), (2, .int (c_this_of 1)), (4, .int b22_l4), (5, .int b22_l5)]) hx hb dX10_complements_60 hl (k := 3) rfl rfl (by decide) rfl (fun ls hl => ?_)
          exact B63 (b22_l3 + 1) b22_l4 (upd b22_c_this_made b22_l3.toNatClampNeg b22_l5) h _ _ hP hD hS _ (lv_sub hl [1, 2, 3, 0, 4, 5] rfl)
        refine lv_icmp_ge (tgt := 52) hx hb dX10_complements_31 (by decide) (fun hc5 => ?_) (fun hc5 => ?_)
        · have h := rk_if hc5 h
          exact B52  h _ _ hP hD hS _ hl
        · have h := rk_nif hc5 h
          refine lv_aload_n hx hb dX10_complements_34 rfl (lv_at hl 0 rfl) ?_
          refine va_get (D := D) (ci := 9) (v := .ref a_this_buffer) (C := RX10) (T := TX10) (N := 17) hx hb htc inX10 hown hV.1 hR 0 rfl rfl 7 (by decide) (htc _ w_4_5) (fun _ h9 => h9) rfl dX10_complements_35 ?_
          refine lv_iload hx hb dX10_complements_38 (lv_at hl 4 rfl) ?_
          obtain ⟨hg6, h⟩ := rk_gd h
          refine va_iald hx hb hV.1 hP 0 0 rfl rfl hg6 dX10_complements_40 ?_
          refine lv_iload hx hb dX10_complements_41 (lv_at hl 5 rfl) ?_
          refine lv_icmp_ne (tgt := 52) hx hb dX10_complements_43 (by decide) (fun hc7 => ?_) (fun hc7 => ?_)
          · have h := rk_if hc7 h
            exact B52  h _ _ hP hD hS _ hl
          · have h := rk_nnif hc7 h
            refine lv_iinc (v := (b22_l4 + 1)) (lv' := [(4, .int (b22_l4 + 1)), (0, .ref a_this), (1, .int (c_this_of 0)), (2, .int (c_this_of 1)), (3, .int b22_l3), (5, .int b22_l5)]) hx hb dX10_complements_46 hl (k := 4) rfl rfl (by decide) rfl (fun ls hl => ?_)
            refine lv_goto (tgt := 63) hx hb dX10_complements_49 (by decide) ?_
            exact B63 b22_l3 (b22_l4 + 1) b22_c_this_made h _ _ hP hD hS _ (lv_sub hl [1, 2, 3, 4, 0, 5] rfl)
  exact L22 FU (0 : Int32) (0 : Int32) (0 : Int32) c_this_made h _ _ hP hD hS _ (lv_sub hl [5, 4, 3, 2, 1, 0] rfl)
set_option maxHeartbeats 4000000 in
set_option maxRecDepth 100000 in
theorem mtX10_inverts (l : Launch) (D : va_G) (cI cJ cO : ClassId) (PL : va_W) (sz : Nat) (a_this : Nat) (a_this_chosen : Nat) (a_this_factorial : Nat) (a_this_catalan : Nat) (a_this_parted : Nat) (a_this_closed : Nat) (f_this_now : Int32) (a_this_of : Nat) (a_this_buffer : Nat) (a_this_made : Nat) (a_this_stackOne : Nat) (a_this_stackOther : Nat) (a_this_stackLong : Nat) (a_this_left : Nat) (f_this_entryMany : Int32) (a_this_entryFamily : Nat) (a_this_entryOf : Nat) (a_this_entryRank : Nat) (c_this_made : Nat → Int32) (c_this_buffer : Nat → Int32) (c_this_of : Nat → Int32) (r0 : (Nat → Int32)) (h : fX10_inverts c_this_made c_this_buffer c_this_of = some r0) : Met l yX10_inverts (rk_w yX10_inverts cX10_inverts 2 none) rmX10_inverts (va_Pc [.ref a_this] (rk_B D (rk_TY cI cJ cO) [(a_this_made, .inl (cI, 60, .inl c_this_made))] [(a_this, .inr (9, [.ref a_this_chosen, .ref a_this_factorial, .ref a_this_catalan, .ref a_this_parted, .ref a_this_closed, .int f_this_now, .ref a_this_of, .ref a_this_buffer, .ref a_this_made, .ref a_this_stackOne, .ref a_this_stackOther, .ref a_this_stackLong, .ref a_this_left, .int f_this_entryMany, .ref a_this_entryFamily, .ref a_this_entryOf, .ref a_this_entryRank])), (a_this_buffer, .inl (cI, 60, .inl c_this_buffer)), (a_this_of, .inl (cI, 4, .inl c_this_of))] PL sz)) (rk_Qv D [(a_this_made, .inl (cI, 60, .inl r0))] [(a_this_made, .inl (cI, 60, .inl c_this_made))] sz) 0 0 (va_A [(a_this_made, .inl (cI, 60, .inl c_this_made))] sz) := by
  refine rk_metv h (fun x => [(a_this_made, .inl (cI, 60, .inl x))]) (by decide) (Nat.le_of_ble_eq_true rfl) ?_
  intro p e s m args below meth c A ls Q hret hname hF hP hD hA hV hR0 hn hPL hnl hl h hS
  have hx := hF.1
  have hb := hF.2.1
  have hml := hF.2.2.1
  have hown : s.vm.findClass RX10 = some m.cls := hF.2.2.2.1
  have htc := hF.2.2.2.2
  have hP : va_P D vwCl [(a_this_made, .inl (cI, 60, .inl c_this_made))] s.heap := hP
  have hD : va_D A [(a_this_made, .inl (cI, 60, .inl c_this_made))] := hD
  have hR0 : va_P D vwCl [(a_this, .inr (9, [.ref a_this_chosen, .ref a_this_factorial, .ref a_this_catalan, .ref a_this_parted, .ref a_this_closed, .int f_this_now, .ref a_this_of, .ref a_this_buffer, .ref a_this_made, .ref a_this_stackOne, .ref a_this_stackOther, .ref a_this_stackLong, .ref a_this_left, .int f_this_entryMany, .ref a_this_entryFamily, .ref a_this_entryOf, .ref a_this_entryRank])), (a_this_buffer, .inl (cI, 60, .inl c_this_buffer)), (a_this_of, .inl (cI, 4, .inl c_this_of))] s.heap := hR0
  have hR := hR0
  have hl : lv_has ls 2 [(0, .ref a_this)] := hl
  unfold fX10_inverts at h
  refine lv_iconst (v := 0) hx hb dX10_inverts_0 (by decide) ?_
  refine lv_istore_n (lv' := [(1, .int (0 : Int32)), (0, .ref a_this)]) hx hb dX10_inverts_1 rfl hl (by decide) rfl (fun ls hl => ?_)
  have L2 : ∀ (n2 : Nat) (b2_l1 : Int32) (b2_c_this_made : Nat → Int32), rk_it2 (fX10_inverts_L2 c_this_buffer c_this_of) n2 b2_l1 b2_c_this_made = some r0 → ∀ (H : Heap) (locs : List Loc), va_P D vwCl [(a_this_made, .inl (cI, 60, .inl b2_c_this_made))] H → va_D A [(a_this_made, .inl (cI, 60, .inl b2_c_this_made))] → va_S A s.heap H locs → ∀ (ls : Array Slot), lv_has ls 2 [(0, .ref a_this), (1, .int b2_l1)] → W p l e rmX10_inverts s m args below meth c H locs 0 0 Q (F0 m 2 ls []) := by
    intro n2
    induction n2 with
    | zero => intro b2_l1 b2_c_this_made h; exact rk_no h
    | succ n2 ih2 =>
      intro b2_l1 b2_c_this_made h H locs hP hD hS ls hl
      have h : fX10_inverts_L2 c_this_buffer c_this_of (rk_it2 (fX10_inverts_L2 c_this_buffer c_this_of) n2) b2_l1 b2_c_this_made = some r0 := h
      unfold fX10_inverts_L2 at h
      have hR := rk_keep hR0 hn hS
      refine lv_iload_n hx hb dX10_inverts_2 rfl (lv_at hl 1 rfl) ?_
      refine lv_aload_n hx hb dX10_inverts_3 rfl (lv_at hl 0 rfl) ?_
      refine va_get (D := D) (ci := 9) (v := .ref a_this_of) (C := RX10) (T := TX10) (N := 17) hx hb htc inX10 hown hV.1 hR 0 rfl rfl 6 (by decide) (htc _ w_4_4) (fun _ h9 => h9) rfl dX10_inverts_4 ?_
      refine lv_iconst (v := 0) hx hb dX10_inverts_7 (by decide) ?_
      refine va_iald hx hb hV.1 hR 2 0 rfl rfl (show vp_in (0 : Int32) 4 from (by decide : ¬ ((0 : Int32) < 0 ∨ 4 ≤ (0 : Int32).toNatClampNeg))) dX10_inverts_8 ?_
      refine W.eq (g2 := F0 m 9 ls [.int (c_this_of 0), .int b2_l1]) rfl ?_
      refine lv_icmp_ge (tgt := 30) hx hb dX10_inverts_9 (by decide) (fun hc1 => ?_) (fun hc1 => ?_)
      · have h := rk_if hc1 h
        exact hret b2_c_this_made _ _ _ _ h dX10_inverts_30 hP hD hS
      · have h := rk_nif hc1 h
        refine lv_aload_n hx hb dX10_inverts_12 rfl (lv_at hl 0 rfl) ?_
        refine va_get (D := D) (ci := 9) (v := .ref a_this_made) (C := RX10) (T := TX10) (N := 17) hx hb htc inX10 hown hV.1 hR 0 rfl rfl 8 (by decide) (htc _ w_4_6) (fun _ h9 => h9) rfl dX10_inverts_13 ?_
        refine lv_aload_n hx hb dX10_inverts_16 rfl (lv_at hl 0 rfl) ?_
        refine va_get (D := D) (ci := 9) (v := .ref a_this_buffer) (C := RX10) (T := TX10) (N := 17) hx hb htc inX10 hown hV.1 hR 0 rfl rfl 7 (by decide) (htc _ w_4_5) (fun _ h9 => h9) rfl dX10_inverts_17 ?_
        refine lv_iload_n hx hb dX10_inverts_20 rfl (lv_at hl 1 rfl) ?_
        obtain ⟨hg2, h⟩ := rk_gd h
        refine va_iald hx hb hV.1 hR 1 0 rfl rfl hg2 dX10_inverts_21 ?_
        refine lv_iload_n hx hb dX10_inverts_22 rfl (lv_at hl 1 rfl) ?_
        obtain ⟨hg3, h⟩ := rk_gd h
        refine va_iast hx hb hV.1 hP hD hS 0 0 rfl rfl hg3 dX10_inverts_23 (fun H locs hP hD hS => ?_)
        have hP : va_P D vwCl [(a_this_made, .inl (cI, 60, .inl (upd b2_c_this_made (c_this_buffer b2_l1.toNatClampNeg).toNatClampNeg b2_l1)))] H := hP
        have hD : va_D A [(a_this_made, .inl (cI, 60, .inl (upd b2_c_this_made (c_this_buffer b2_l1.toNatClampNeg).toNatClampNeg b2_l1)))] := hD
        have hR := rk_keep hR0 hn hS
        refine lv_iinc (v := (b2_l1 + 1)) (lv' := [(1, .int (b2_l1 + 1)), (0, .ref a_this)]) hx hb dX10_inverts_24 hl (k := 1) rfl rfl (by decide) rfl (fun ls hl => ?_)
        refine lv_goto (tgt := 2) hx hb dX10_inverts_27 (by decide) ?_
        exact ih2 (b2_l1 + 1) (upd b2_c_this_made (c_this_buffer b2_l1.toNatClampNeg).toNatClampNeg b2_l1) h _ _ hP hD hS _ (lv_sub hl [1, 0] rfl)
  exact L2 FU (0 : Int32) c_this_made h _ _ hP hD hS _ (lv_sub hl [1, 0] rfl)
set_option maxHeartbeats 4000000 in
set_option maxRecDepth 100000 in
theorem mtX10_mirrorsWord (l : Launch) (D : va_G) (cI cJ cO : ClassId) (PL : va_W) (sz : Nat) (a_this : Nat) (a_this_chosen : Nat) (a_this_factorial : Nat) (a_this_catalan : Nat) (a_this_parted : Nat) (a_this_closed : Nat) (f_this_now : Int32) (a_this_of : Nat) (a_this_buffer : Nat) (a_this_made : Nat) (a_this_stackOne : Nat) (a_this_stackOther : Nat) (a_this_stackLong : Nat) (a_this_left : Nat) (f_this_entryMany : Int32) (a_this_entryFamily : Nat) (a_this_entryOf : Nat) (a_this_entryRank : Nat) (c_this_made : Nat → Int32) (c_this_buffer : Nat → Int32) (c_this_of : Nat → Int32) (r0 : (Nat → Int32)) (h : fX10_mirrorsWord c_this_made c_this_buffer c_this_of = some r0) : Met l yX10_mirrorsWord (rk_w yX10_mirrorsWord cX10_mirrorsWord 3 none) rmX10_mirrorsWord (va_Pc [.ref a_this] (rk_B D (rk_TY cI cJ cO) [(a_this_made, .inl (cI, 60, .inl c_this_made))] [(a_this, .inr (9, [.ref a_this_chosen, .ref a_this_factorial, .ref a_this_catalan, .ref a_this_parted, .ref a_this_closed, .int f_this_now, .ref a_this_of, .ref a_this_buffer, .ref a_this_made, .ref a_this_stackOne, .ref a_this_stackOther, .ref a_this_stackLong, .ref a_this_left, .int f_this_entryMany, .ref a_this_entryFamily, .ref a_this_entryOf, .ref a_this_entryRank])), (a_this_buffer, .inl (cI, 60, .inl c_this_buffer)), (a_this_of, .inl (cI, 4, .inl c_this_of))] PL sz)) (rk_Qv D [(a_this_made, .inl (cI, 60, .inl r0))] [(a_this_made, .inl (cI, 60, .inl c_this_made))] sz) 0 0 (va_A [(a_this_made, .inl (cI, 60, .inl c_this_made))] sz) := by
  refine rk_metv h (fun x => [(a_this_made, .inl (cI, 60, .inl x))]) (by decide) (Nat.le_of_ble_eq_true rfl) ?_
  intro p e s m args below meth c A ls Q hret hname hF hP hD hA hV hR0 hn hPL hnl hl h hS
  have hx := hF.1
  have hb := hF.2.1
  have hml := hF.2.2.1
  have hown : s.vm.findClass RX10 = some m.cls := hF.2.2.2.1
  have htc := hF.2.2.2.2
  have hP : va_P D vwCl [(a_this_made, .inl (cI, 60, .inl c_this_made))] s.heap := hP
  have hD : va_D A [(a_this_made, .inl (cI, 60, .inl c_this_made))] := hD
  have hR0 : va_P D vwCl [(a_this, .inr (9, [.ref a_this_chosen, .ref a_this_factorial, .ref a_this_catalan, .ref a_this_parted, .ref a_this_closed, .int f_this_now, .ref a_this_of, .ref a_this_buffer, .ref a_this_made, .ref a_this_stackOne, .ref a_this_stackOther, .ref a_this_stackLong, .ref a_this_left, .int f_this_entryMany, .ref a_this_entryFamily, .ref a_this_entryOf, .ref a_this_entryRank])), (a_this_buffer, .inl (cI, 60, .inl c_this_buffer)), (a_this_of, .inl (cI, 4, .inl c_this_of))] s.heap := hR0
  have hR := hR0
  have hl : lv_has ls 3 [(0, .ref a_this)] := hl
  unfold fX10_mirrorsWord at h
  refine lv_iconst (v := 2) hx hb dX10_mirrorsWord_0 (by decide) ?_
  refine lv_aload_n hx hb dX10_mirrorsWord_1 rfl (lv_at hl 0 rfl) ?_
  refine va_get (D := D) (ci := 9) (v := .ref a_this_of) (C := RX10) (T := TX10) (N := 17) hx hb htc inX10 hown hV.1 hR 0 rfl rfl 6 (by decide) (htc _ w_4_4) (fun _ h9 => h9) rfl dX10_mirrorsWord_2 ?_
  refine lv_iconst (v := 0) hx hb dX10_mirrorsWord_5 (by decide) ?_
  refine va_iald hx hb hV.1 hR 2 0 rfl rfl (show vp_in (0 : Int32) 4 from (by decide : ¬ ((0 : Int32) < 0 ∨ 4 ≤ (0 : Int32).toNatClampNeg))) dX10_mirrorsWord_6 ?_
  refine W.eq (g2 := F0 m 7 ls [.int (c_this_of 0), .int (2 : Int32)]) rfl ?_
  refine lv_imul hx hb dX10_mirrorsWord_7 ?_
  refine lv_istore_n (lv' := [(1, .int ((2 : Int32) * (c_this_of 0))), (0, .ref a_this)]) hx hb dX10_mirrorsWord_8 rfl hl (by decide) rfl (fun ls hl => ?_)
  refine lv_iconst (v := 0) hx hb dX10_mirrorsWord_9 (by decide) ?_
  refine lv_istore_n (lv' := [(2, .int (0 : Int32)), (1, .int ((2 : Int32) * (c_this_of 0))), (0, .ref a_this)]) hx hb dX10_mirrorsWord_10 rfl hl (by decide) rfl (fun ls hl => ?_)
  have L11 : ∀ (n11 : Nat) (b11_l2 : Int32) (b11_c_this_made : Nat → Int32), rk_it2 (fX10_mirrorsWord_L11 c_this_buffer c_this_of) n11 b11_l2 b11_c_this_made = some r0 → ∀ (H : Heap) (locs : List Loc), va_P D vwCl [(a_this_made, .inl (cI, 60, .inl b11_c_this_made))] H → va_D A [(a_this_made, .inl (cI, 60, .inl b11_c_this_made))] → va_S A s.heap H locs → ∀ (ls : Array Slot), lv_has ls 3 [(0, .ref a_this), (1, .int ((2 : Int32) * (c_this_of 0))), (2, .int b11_l2)] → W p l e rmX10_mirrorsWord s m args below meth c H locs 0 0 Q (F0 m 11 ls []) := by
    intro n11
    induction n11 with
    | zero => intro b11_l2 b11_c_this_made h; exact rk_no h
    | succ n11 ih11 =>
      intro b11_l2 b11_c_this_made h H locs hP hD hS ls hl
      have h : fX10_mirrorsWord_L11 c_this_buffer c_this_of (rk_it2 (fX10_mirrorsWord_L11 c_this_buffer c_this_of) n11) b11_l2 b11_c_this_made = some r0 := h
      unfold fX10_mirrorsWord_L11 at h
      have hR := rk_keep hR0 hn hS
      refine lv_iload_n hx hb dX10_mirrorsWord_11 rfl (lv_at hl 2 rfl) ?_
      refine lv_iload_n hx hb dX10_mirrorsWord_12 rfl (lv_at hl 1 rfl) ?_
      refine lv_icmp_ge (tgt := 40) hx hb dX10_mirrorsWord_13 (by decide) (fun hc1 => ?_) (fun hc1 => ?_)
      · have h := rk_if hc1 h
        exact hret b11_c_this_made _ _ _ _ h dX10_mirrorsWord_40 hP hD hS
      · have h := rk_nif hc1 h
        refine lv_aload_n hx hb dX10_mirrorsWord_16 rfl (lv_at hl 0 rfl) ?_
        refine va_get (D := D) (ci := 9) (v := .ref a_this_made) (C := RX10) (T := TX10) (N := 17) hx hb htc inX10 hown hV.1 hR 0 rfl rfl 8 (by decide) (htc _ w_4_6) (fun _ h9 => h9) rfl dX10_mirrorsWord_17 ?_
        refine lv_iload_n hx hb dX10_mirrorsWord_20 rfl (lv_at hl 1 rfl) ?_
        refine lv_iconst (v := 1) hx hb dX10_mirrorsWord_21 (by decide) ?_
        refine lv_isub hx hb dX10_mirrorsWord_22 ?_
        refine lv_iload_n hx hb dX10_mirrorsWord_23 rfl (lv_at hl 2 rfl) ?_
        refine lv_isub hx hb dX10_mirrorsWord_24 ?_
        refine lv_aload_n hx hb dX10_mirrorsWord_25 rfl (lv_at hl 0 rfl) ?_
        refine va_get (D := D) (ci := 9) (v := .ref a_this_buffer) (C := RX10) (T := TX10) (N := 17) hx hb htc inX10 hown hV.1 hR 0 rfl rfl 7 (by decide) (htc _ w_4_5) (fun _ h9 => h9) rfl dX10_mirrorsWord_26 ?_
        refine lv_iload_n hx hb dX10_mirrorsWord_29 rfl (lv_at hl 2 rfl) ?_
        obtain ⟨hg2, h⟩ := rk_gd h
        refine va_iald hx hb hV.1 hR 1 0 rfl rfl hg2 dX10_mirrorsWord_30 ?_
        refine lv_iconst (v := 1) hx hb dX10_mirrorsWord_31 (by decide) ?_
        refine lv_ixor hx hb dX10_mirrorsWord_32 ?_
        obtain ⟨hg3, h⟩ := rk_gd h
        refine va_iast hx hb hV.1 hP hD hS 0 0 rfl rfl hg3 dX10_mirrorsWord_33 (fun H locs hP hD hS => ?_)
        have hP : va_P D vwCl [(a_this_made, .inl (cI, 60, .inl (upd b11_c_this_made ((((2 : Int32) * (c_this_of 0)) - (1 : Int32)) - b11_l2).toNatClampNeg ((c_this_buffer b11_l2.toNatClampNeg) ^^^ (1 : Int32)))))] H := hP
        have hD : va_D A [(a_this_made, .inl (cI, 60, .inl (upd b11_c_this_made ((((2 : Int32) * (c_this_of 0)) - (1 : Int32)) - b11_l2).toNatClampNeg ((c_this_buffer b11_l2.toNatClampNeg) ^^^ (1 : Int32)))))] := hD
        have hR := rk_keep hR0 hn hS
        refine lv_iinc (v := (b11_l2 + 1)) (lv' := [(2, .int (b11_l2 + 1)), (0, .ref a_this), (1, .int ((2 : Int32) * (c_this_of 0)))]) hx hb dX10_mirrorsWord_34 hl (k := 2) rfl rfl (by decide) rfl (fun ls hl => ?_)
        refine lv_goto (tgt := 11) hx hb dX10_mirrorsWord_37 (by decide) ?_
        exact ih11 (b11_l2 + 1) (upd b11_c_this_made ((((2 : Int32) * (c_this_of 0)) - (1 : Int32)) - b11_l2).toNatClampNeg ((c_this_buffer b11_l2.toNatClampNeg) ^^^ (1 : Int32))) h _ _ hP hD hS _ (lv_sub hl [1, 2, 0] rfl)
  exact L11 FU (0 : Int32) c_this_made h _ _ hP hD hS _ (lv_sub hl [2, 1, 0] rfl)
set_option maxHeartbeats 4000000 in
set_option maxRecDepth 100000 in
theorem mtX10_mirrorsTree (l : Launch) (D : va_G) (cI cJ cO : ClassId) (PL : va_W) (sz : Nat) (a_this : Nat) (a_this_chosen : Nat) (a_this_factorial : Nat) (a_this_catalan : Nat) (a_this_parted : Nat) (a_this_closed : Nat) (f_this_now : Int32) (a_this_of : Nat) (a_this_buffer : Nat) (a_this_made : Nat) (a_this_stackOne : Nat) (a_this_stackOther : Nat) (a_this_stackLong : Nat) (a_this_left : Nat) (f_this_entryMany : Int32) (a_this_entryFamily : Nat) (a_this_entryOf : Nat) (a_this_entryRank : Nat) (c_this_made : Nat → Int32) (c_this_stackOne : Nat → Int32) (c_this_stackOther : Nat → Int32) (c_this_buffer : Nat → Int32) (c_this_of : Nat → Int32) (r0 : (Nat → Int32) × (Nat → Int32) × (Nat → Int32)) (h : fX10_mirrorsTree c_this_made c_this_stackOne c_this_stackOther c_this_buffer c_this_of = some r0) : Met l yX10_mirrorsTree (rk_w yX10_mirrorsTree cX10_mirrorsTree 6 none) rmX10_mirrorsTree (va_Pc [.ref a_this] (rk_B D (rk_TY cI cJ cO) [(a_this_made, .inl (cI, 60, .inl c_this_made)), (a_this_stackOne, .inl (cI, 64, .inl c_this_stackOne)), (a_this_stackOther, .inl (cI, 64, .inl c_this_stackOther))] [(a_this, .inr (9, [.ref a_this_chosen, .ref a_this_factorial, .ref a_this_catalan, .ref a_this_parted, .ref a_this_closed, .int f_this_now, .ref a_this_of, .ref a_this_buffer, .ref a_this_made, .ref a_this_stackOne, .ref a_this_stackOther, .ref a_this_stackLong, .ref a_this_left, .int f_this_entryMany, .ref a_this_entryFamily, .ref a_this_entryOf, .ref a_this_entryRank])), (a_this_buffer, .inl (cI, 60, .inl c_this_buffer)), (a_this_of, .inl (cI, 4, .inl c_this_of))] PL sz)) (rk_Qv D [(a_this_made, .inl (cI, 60, .inl r0.1)), (a_this_stackOne, .inl (cI, 64, .inl r0.2.1)), (a_this_stackOther, .inl (cI, 64, .inl r0.2.2))] [(a_this_made, .inl (cI, 60, .inl c_this_made)), (a_this_stackOne, .inl (cI, 64, .inl c_this_stackOne)), (a_this_stackOther, .inl (cI, 64, .inl c_this_stackOther))] sz) 0 0 (va_A [(a_this_made, .inl (cI, 60, .inl c_this_made)), (a_this_stackOne, .inl (cI, 64, .inl c_this_stackOne)), (a_this_stackOther, .inl (cI, 64, .inl c_this_stackOther))] sz) := by
  refine rk_metv h (fun x => [(a_this_made, .inl (cI, 60, .inl x.1)), (a_this_stackOne, .inl (cI, 64, .inl x.2.1)), (a_this_stackOther, .inl (cI, 64, .inl x.2.2))]) (by decide) (Nat.le_of_ble_eq_true rfl) ?_
  intro p e s m args below meth c A ls Q hret hname hF hP hD hA hV hR0 hn hPL hnl hl h hS
  have hx := hF.1
  have hb := hF.2.1
  have hml := hF.2.2.1
  have hown : s.vm.findClass RX10 = some m.cls := hF.2.2.2.1
  have htc := hF.2.2.2.2
  have hP : va_P D vwCl [(a_this_made, .inl (cI, 60, .inl c_this_made)), (a_this_stackOne, .inl (cI, 64, .inl c_this_stackOne)), (a_this_stackOther, .inl (cI, 64, .inl c_this_stackOther))] s.heap := hP
  have hD : va_D A [(a_this_made, .inl (cI, 60, .inl c_this_made)), (a_this_stackOne, .inl (cI, 64, .inl c_this_stackOne)), (a_this_stackOther, .inl (cI, 64, .inl c_this_stackOther))] := hD
  have hR0 : va_P D vwCl [(a_this, .inr (9, [.ref a_this_chosen, .ref a_this_factorial, .ref a_this_catalan, .ref a_this_parted, .ref a_this_closed, .int f_this_now, .ref a_this_of, .ref a_this_buffer, .ref a_this_made, .ref a_this_stackOne, .ref a_this_stackOther, .ref a_this_stackLong, .ref a_this_left, .int f_this_entryMany, .ref a_this_entryFamily, .ref a_this_entryOf, .ref a_this_entryRank])), (a_this_buffer, .inl (cI, 60, .inl c_this_buffer)), (a_this_of, .inl (cI, 4, .inl c_this_of))] s.heap := hR0
  have hR := hR0
  have hl : lv_has ls 6 [(0, .ref a_this)] := hl
  unfold fX10_mirrorsTree at h
  refine lv_iconst (v := 1) hx hb dX10_mirrorsTree_0 (by decide) ?_
  refine lv_istore_n (lv' := [(1, .int (1 : Int32)), (0, .ref a_this)]) hx hb dX10_mirrorsTree_1 rfl hl (by decide) rfl (fun ls hl => ?_)
  refine lv_aload_n hx hb dX10_mirrorsTree_2 rfl (lv_at hl 1 rfl) ?_
  refine va_get (D := D) (ci := 9) (v := .ref a_this_stackOne) (C := RX10) (T := TX10) (N := 17) hx hb htc inX10 hown hV.1 hR 0 rfl rfl 9 (by decide) (htc _ w_4_7) (fun _ h9 => h9) rfl dX10_mirrorsTree_3 ?_
  refine lv_iconst (v := 0) hx hb dX10_mirrorsTree_6 (by decide) ?_
  refine lv_iconst (v := 0) hx hb dX10_mirrorsTree_7 (by decide) ?_
  refine va_iast hx hb hV.1 hP hD hS 1 0 rfl rfl (show vp_in (0 : Int32) 64 from (by decide : ¬ ((0 : Int32) < 0 ∨ 64 ≤ (0 : Int32).toNatClampNeg))) dX10_mirrorsTree_8 (fun H locs hP hD hS => ?_)
  have hP : va_P D vwCl [(a_this_made, .inl (cI, 60, .inl c_this_made)), (a_this_stackOne, .inl (cI, 64, .inl (upd c_this_stackOne 0 (0 : Int32)))), (a_this_stackOther, .inl (cI, 64, .inl c_this_stackOther))] H := hP
  have hD : va_D A [(a_this_made, .inl (cI, 60, .inl c_this_made)), (a_this_stackOne, .inl (cI, 64, .inl (upd c_this_stackOne 0 (0 : Int32)))), (a_this_stackOther, .inl (cI, 64, .inl c_this_stackOther))] := hD
  have hR := rk_keep hR0 hn hS
  refine lv_aload_n hx hb dX10_mirrorsTree_9 rfl (lv_at hl 1 rfl) ?_
  refine va_get (D := D) (ci := 9) (v := .ref a_this_stackOther) (C := RX10) (T := TX10) (N := 17) hx hb htc inX10 hown hV.1 hR 0 rfl rfl 10 (by decide) (htc _ w_4_8) (fun _ h9 => h9) rfl dX10_mirrorsTree_10 ?_
  refine lv_iconst (v := 0) hx hb dX10_mirrorsTree_13 (by decide) ?_
  refine lv_aload_n hx hb dX10_mirrorsTree_14 rfl (lv_at hl 1 rfl) ?_
  refine va_get (D := D) (ci := 9) (v := .ref a_this_of) (C := RX10) (T := TX10) (N := 17) hx hb htc inX10 hown hV.1 hR 0 rfl rfl 6 (by decide) (htc _ w_4_4) (fun _ h9 => h9) rfl dX10_mirrorsTree_15 ?_
  refine lv_iconst (v := 0) hx hb dX10_mirrorsTree_18 (by decide) ?_
  refine va_iald hx hb hV.1 hR 2 0 rfl rfl (show vp_in (0 : Int32) 4 from (by decide : ¬ ((0 : Int32) < 0 ∨ 4 ≤ (0 : Int32).toNatClampNeg))) dX10_mirrorsTree_19 ?_
  refine W.eq (g2 := F0 m 20 ls [.int (c_this_of 0), .int (0 : Int32), .ref a_this_stackOther]) rfl ?_
  refine va_iast hx hb hV.1 hP hD hS 2 0 rfl rfl (show vp_in (0 : Int32) 64 from (by decide : ¬ ((0 : Int32) < 0 ∨ 64 ≤ (0 : Int32).toNatClampNeg))) dX10_mirrorsTree_20 (fun H locs hP hD hS => ?_)
  have hP : va_P D vwCl [(a_this_made, .inl (cI, 60, .inl c_this_made)), (a_this_stackOne, .inl (cI, 64, .inl (upd c_this_stackOne 0 (0 : Int32)))), (a_this_stackOther, .inl (cI, 64, .inl (upd c_this_stackOther 0 (c_this_of 0))))] H := hP
  have hD : va_D A [(a_this_made, .inl (cI, 60, .inl c_this_made)), (a_this_stackOne, .inl (cI, 64, .inl (upd c_this_stackOne 0 (0 : Int32)))), (a_this_stackOther, .inl (cI, 64, .inl (upd c_this_stackOther 0 (c_this_of 0))))] := hD
  have hR := rk_keep hR0 hn hS
  refine lv_iconst (v := 0) hx hb dX10_mirrorsTree_21 (by decide) ?_
  refine lv_istore_n (lv' := [(2, .int (0 : Int32)), (1, .int (1 : Int32)), (0, .ref a_this)]) hx hb dX10_mirrorsTree_22 rfl hl (by decide) rfl (fun ls hl => ?_)
  have L23 : ∀ (n23 : Nat) (b23_l1 : Int32) (b23_l2 : Int32) (b23_c_this_made : Nat → Int32) (b23_c_this_stackOne : Nat → Int32) (b23_c_this_stackOther : Nat → Int32), rk_it5 (fX10_mirrorsTree_L23 c_this_buffer c_this_of) n23 b23_l1 b23_l2 b23_c_this_made b23_c_this_stackOne b23_c_this_stackOther = some r0 → ∀ (H : Heap) (locs : List Loc), va_P D vwCl [(a_this_made, .inl (cI, 60, .inl b23_c_this_made)), (a_this_stackOne, .inl (cI, 64, .inl b23_c_this_stackOne)), (a_this_stackOther, .inl (cI, 64, .inl b23_c_this_stackOther))] H → va_D A [(a_this_made, .inl (cI, 60, .inl b23_c_this_made)), (a_this_stackOne, .inl (cI, 64, .inl b23_c_this_stackOne)), (a_this_stackOther, .inl (cI, 64, .inl b23_c_this_stackOther))] → va_S A s.heap H locs → ∀ (ls : Array Slot), lv_has ls 6 [(0, .ref a_this), (1, .int b23_l1), (2, .int b23_l2)] → W p l e rmX10_mirrorsTree s m args below meth c H locs 0 0 Q (F0 m 23 ls []) := by
    intro n23
    induction n23 with
    | zero => intro b23_l1 b23_l2 b23_c_this_made b23_c_this_stackOne b23_c_this_stackOther h; exact rk_no h
    | succ n23 ih23 =>
      intro b23_l1 b23_l2 b23_c_this_made b23_c_this_stackOne b23_c_this_stackOther h H locs hP hD hS ls hl
      have h : fX10_mirrorsTree_L23 c_this_buffer c_this_of (rk_it5 (fX10_mirrorsTree_L23 c_this_buffer c_this_of) n23) b23_l1 b23_l2 b23_c_this_made b23_c_this_stackOne b23_c_this_stackOther = some r0 := h
      unfold fX10_mirrorsTree_L23 at h
      have hR := rk_keep hR0 hn hS
      refine lv_iload_n hx hb dX10_mirrorsTree_23 rfl (lv_at hl 2 rfl) ?_
      refine lv_aload_n hx hb dX10_mirrorsTree_24 rfl (lv_at hl 0 rfl) ?_
      refine va_get (D := D) (ci := 9) (v := .ref a_this_of) (C := RX10) (T := TX10) (N := 17) hx hb htc inX10 hown hV.1 hR 0 rfl rfl 6 (by decide) (htc _ w_4_4) (fun _ h9 => h9) rfl dX10_mirrorsTree_25 ?_
      refine lv_iconst (v := 0) hx hb dX10_mirrorsTree_28 (by decide) ?_
      refine va_iald hx hb hV.1 hR 2 0 rfl rfl (show vp_in (0 : Int32) 4 from (by decide : ¬ ((0 : Int32) < 0 ∨ 4 ≤ (0 : Int32).toNatClampNeg))) dX10_mirrorsTree_29 ?_
      refine W.eq (g2 := F0 m 30 ls [.int (c_this_of 0), .int b23_l2]) rfl ?_
      refine lv_icmp_ge (tgt := 141) hx hb dX10_mirrorsTree_30 (by decide) (fun hc1 => ?_) (fun hc1 => ?_)
      · have h := rk_if hc1 h
        exact hret (b23_c_this_made, b23_c_this_stackOne, b23_c_this_stackOther) _ _ _ _ h dX10_mirrorsTree_141 hP hD hS
      · have h := rk_nif hc1 h
        refine lv_iinc (v := (b23_l1 + (-1))) (lv' := [(1, .int (b23_l1 + (-1))), (0, .ref a_this), (2, .int b23_l2)]) hx hb dX10_mirrorsTree_33 hl (k := 1) rfl rfl (by decide) rfl (fun ls hl => ?_)
        refine lv_aload_n hx hb dX10_mirrorsTree_36 rfl (lv_at hl 1 rfl) ?_
        refine va_get (D := D) (ci := 9) (v := .ref a_this_stackOne) (C := RX10) (T := TX10) (N := 17) hx hb htc inX10 hown hV.1 hR 0 rfl rfl 9 (by decide) (htc _ w_4_7) (fun _ h9 => h9) rfl dX10_mirrorsTree_37 ?_
        refine lv_iload_n hx hb dX10_mirrorsTree_40 rfl (lv_at hl 0 rfl) ?_
        obtain ⟨hg2, h⟩ := rk_gd h
        refine va_iald hx hb hV.1 hP 1 0 rfl rfl hg2 dX10_mirrorsTree_41 ?_
        refine lv_istore_n (lv' := [(3, .int (b23_c_this_stackOne (b23_l1 + (-1)).toNatClampNeg)), (1, .int (b23_l1 + (-1))), (0, .ref a_this), (2, .int b23_l2)]) hx hb dX10_mirrorsTree_42 rfl hl (by decide) rfl (fun ls hl => ?_)
        refine lv_aload_n hx hb dX10_mirrorsTree_43 rfl (lv_at hl 2 rfl) ?_
        refine va_get (D := D) (ci := 9) (v := .ref a_this_stackOther) (C := RX10) (T := TX10) (N := 17) hx hb htc inX10 hown hV.1 hR 0 rfl rfl 10 (by decide) (htc _ w_4_8) (fun _ h9 => h9) rfl dX10_mirrorsTree_44 ?_
        refine lv_iload_n hx hb dX10_mirrorsTree_47 rfl (lv_at hl 1 rfl) ?_
        refine va_iald hx hb hV.1 hP 2 0 rfl rfl hg2 dX10_mirrorsTree_48 ?_
        refine lv_istore (lv' := [(4, .int (b23_c_this_stackOther (b23_l1 + (-1)).toNatClampNeg)), (3, .int (b23_c_this_stackOne (b23_l1 + (-1)).toNatClampNeg)), (1, .int (b23_l1 + (-1))), (0, .ref a_this), (2, .int b23_l2)]) hx hb dX10_mirrorsTree_49 hl (by decide) rfl (fun ls hl => ?_)
        refine lv_aload_n hx hb dX10_mirrorsTree_51 rfl (lv_at hl 3 rfl) ?_
        refine va_get (D := D) (ci := 9) (v := .ref a_this_buffer) (C := RX10) (T := TX10) (N := 17) hx hb htc inX10 hown hV.1 hR 0 rfl rfl 7 (by decide) (htc _ w_4_5) (fun _ h9 => h9) rfl dX10_mirrorsTree_52 ?_
        refine lv_iload_n hx hb dX10_mirrorsTree_55 rfl (lv_at hl 1 rfl) ?_
        obtain ⟨hg3, h⟩ := rk_gd h
        refine va_iald hx hb hV.1 hR 1 0 rfl rfl hg3 dX10_mirrorsTree_56 ?_
        refine lv_istore (lv' := [(5, .int (c_this_buffer (b23_c_this_stackOne (b23_l1 + (-1)).toNatClampNeg).toNatClampNeg)), (4, .int (b23_c_this_stackOther (b23_l1 + (-1)).toNatClampNeg)), (3, .int (b23_c_this_stackOne (b23_l1 + (-1)).toNatClampNeg)), (1, .int (b23_l1 + (-1))), (0, .ref a_this), (2, .int b23_l2)]) hx hb dX10_mirrorsTree_57 hl (by decide) rfl (fun ls hl => ?_)
        refine lv_aload_n hx hb dX10_mirrorsTree_59 rfl (lv_at hl 4 rfl) ?_
        refine va_get (D := D) (ci := 9) (v := .ref a_this_made) (C := RX10) (T := TX10) (N := 17) hx hb htc inX10 hown hV.1 hR 0 rfl rfl 8 (by decide) (htc _ w_4_6) (fun _ h9 => h9) rfl dX10_mirrorsTree_60 ?_
        refine lv_iload_n hx hb dX10_mirrorsTree_63 rfl (lv_at hl 5 rfl) ?_
        refine lv_iload hx hb dX10_mirrorsTree_64 (lv_at hl 1 rfl) ?_
        refine lv_iconst (v := 1) hx hb dX10_mirrorsTree_66 (by decide) ?_
        refine lv_isub hx hb dX10_mirrorsTree_67 ?_
        refine lv_iload hx hb dX10_mirrorsTree_68 (lv_at hl 0 rfl) ?_
        refine lv_isub hx hb dX10_mirrorsTree_70 ?_
        obtain ⟨hg4, h⟩ := rk_gd h
        refine va_iast hx hb hV.1 hP hD hS 0 0 rfl rfl hg4 dX10_mirrorsTree_71 (fun H locs hP hD hS => ?_)
        have hP : va_P D vwCl [(a_this_made, .inl (cI, 60, .inl (upd b23_c_this_made b23_l2.toNatClampNeg (((b23_c_this_stackOther (b23_l1 + (-1)).toNatClampNeg) - (1 : Int32)) - (c_this_buffer (b23_c_this_stackOne (b23_l1 + (-1)).toNatClampNeg).toNatClampNeg))))), (a_this_stackOne, .inl (cI, 64, .inl b23_c_this_stackOne)), (a_this_stackOther, .inl (cI, 64, .inl b23_c_this_stackOther))] H := hP
        have hD : va_D A [(a_this_made, .inl (cI, 60, .inl (upd b23_c_this_made b23_l2.toNatClampNeg (((b23_c_this_stackOther (b23_l1 + (-1)).toNatClampNeg) - (1 : Int32)) - (c_this_buffer (b23_c_this_stackOne (b23_l1 + (-1)).toNatClampNeg).toNatClampNeg))))), (a_this_stackOne, .inl (cI, 64, .inl b23_c_this_stackOne)), (a_this_stackOther, .inl (cI, 64, .inl b23_c_this_stackOther))] := hD
        have hR := rk_keep hR0 hn hS
        refine lv_iload hx hb dX10_mirrorsTree_72 (lv_at hl 0 rfl) ?_
        have B97 : ∀ (b97_l1 : Int32) (b97_c_this_stackOne : Nat → Int32) (b97_c_this_stackOther : Nat → Int32), fX10_mirrorsTree_B97 c_this_buffer b23_l1 b23_l2 b23_c_this_made b23_c_this_stackOne b23_c_this_stackOther (rk_it5 (fX10_mirrorsTree_L23 c_this_buffer c_this_of) n23) b97_l1 b97_c_this_stackOne b97_c_this_stackOther = some r0 → ∀ (H : Heap) (locs : List Loc), va_P D vwCl [(a_this_made, .inl (cI, 60, .inl (upd b23_c_this_made b23_l2.toNatClampNeg (((b23_c_this_stackOther (b23_l1 + (-1)).toNatClampNeg) - (1 : Int32)) - (c_this_buffer (b23_c_this_stackOne (b23_l1 + (-1)).toNatClampNeg).toNatClampNeg))))), (a_this_stackOne, .inl (cI, 64, .inl b97_c_this_stackOne)), (a_this_stackOther, .inl (cI, 64, .inl b97_c_this_stackOther))] H → va_D A [(a_this_made, .inl (cI, 60, .inl (upd b23_c_this_made b23_l2.toNatClampNeg (((b23_c_this_stackOther (b23_l1 + (-1)).toNatClampNeg) - (1 : Int32)) - (c_this_buffer (b23_c_this_stackOne (b23_l1 + (-1)).toNatClampNeg).toNatClampNeg))))), (a_this_stackOne, .inl (cI, 64, .inl b97_c_this_stackOne)), (a_this_stackOther, .inl (cI, 64, .inl b97_c_this_stackOther))] → va_S A s.heap H locs → ∀ (ls : Array Slot), lv_has ls 6 [(0, .ref a_this), (1, .int b97_l1), (2, .int b23_l2), (3, .int (b23_c_this_stackOne (b23_l1 + (-1)).toNatClampNeg)), (4, .int (b23_c_this_stackOther (b23_l1 + (-1)).toNatClampNeg)), (5, .int (c_this_buffer (b23_c_this_stackOne (b23_l1 + (-1)).toNatClampNeg).toNatClampNeg))] → W p l e rmX10_mirrorsTree s m args below meth c H locs 0 0 Q (F0 m 97 ls []) := by
          intro b97_l1 b97_c_this_stackOne b97_c_this_stackOther h H locs hP hD hS ls hl
          unfold fX10_mirrorsTree_B97 at h
          have hR := rk_keep hR0 hn hS
          refine lv_iload hx hb dX10_mirrorsTree_97 (lv_at hl 4 rfl) ?_
          refine lv_iconst (v := 1) hx hb dX10_mirrorsTree_99 (by decide) ?_
          refine lv_isub hx hb dX10_mirrorsTree_100 ?_
          refine lv_iload hx hb dX10_mirrorsTree_101 (lv_at hl 5 rfl) ?_
          refine lv_isub hx hb dX10_mirrorsTree_103 ?_
          have B135 : ∀ (b135_l1 : Int32) (b135_c_this_stackOne : Nat → Int32) (b135_c_this_stackOther : Nat → Int32), fX10_mirrorsTree_B135 c_this_buffer b23_l1 b23_l2 b23_c_this_made b23_c_this_stackOne b23_c_this_stackOther (rk_it5 (fX10_mirrorsTree_L23 c_this_buffer c_this_of) n23) b135_l1 b135_c_this_stackOne b135_c_this_stackOther = some r0 → ∀ (H : Heap) (locs : List Loc), va_P D vwCl [(a_this_made, .inl (cI, 60, .inl (upd b23_c_this_made b23_l2.toNatClampNeg (((b23_c_this_stackOther (b23_l1 + (-1)).toNatClampNeg) - (1 : Int32)) - (c_this_buffer (b23_c_this_stackOne (b23_l1 + (-1)).toNatClampNeg).toNatClampNeg))))), (a_this_stackOne, .inl (cI, 64, .inl b135_c_this_stackOne)), (a_this_stackOther, .inl (cI, 64, .inl b135_c_this_stackOther))] H → va_D A [(a_this_made, .inl (cI, 60, .inl (upd b23_c_this_made b23_l2.toNatClampNeg (((b23_c_this_stackOther (b23_l1 + (-1)).toNatClampNeg) - (1 : Int32)) - (c_this_buffer (b23_c_this_stackOne (b23_l1 + (-1)).toNatClampNeg).toNatClampNeg))))), (a_this_stackOne, .inl (cI, 64, .inl b135_c_this_stackOne)), (a_this_stackOther, .inl (cI, 64, .inl b135_c_this_stackOther))] → va_S A s.heap H locs → ∀ (ls : Array Slot), lv_has ls 6 [(0, .ref a_this), (1, .int b135_l1), (2, .int b23_l2)] → W p l e rmX10_mirrorsTree s m args below meth c H locs 0 0 Q (F0 m 135 ls []) := by
            intro b135_l1 b135_c_this_stackOne b135_c_this_stackOther h H locs hP hD hS ls hl
            unfold fX10_mirrorsTree_B135 at h
            have hR := rk_keep hR0 hn hS
            refine lv_iinc (v := (b23_l2 + 1)) (lv' := [(2, .int (b23_l2 + 1)), (0, .ref a_this), (1, .int b135_l1)]) hx hb dX10_mirrorsTree_135 hl (k := 2) rfl rfl (by decide) rfl (fun ls hl => ?_)
            refine lv_goto (tgt := 23) hx hb dX10_mirrorsTree_138 (by decide) ?_
            exact ih23 b135_l1 (b23_l2 + 1) (upd b23_c_this_made b23_l2.toNatClampNeg (((b23_c_this_stackOther (b23_l1 + (-1)).toNatClampNeg) - (1 : Int32)) - (c_this_buffer (b23_c_this_stackOne (b23_l1 + (-1)).toNatClampNeg).toNatClampNeg))) b135_c_this_stackOne b135_c_this_stackOther h _ _ hP hD hS _ (lv_sub hl [1, 2, 0] rfl)
          refine lv_if_le (tgt := 135) hx hb dX10_mirrorsTree_104 (by decide) (fun hc5 => ?_) (fun hc5 => ?_)
          · have h := rk_if hc5 h
            exact B135 b97_l1 b97_c_this_stackOne b97_c_this_stackOther h _ _ hP hD hS _ (lv_sub hl [0, 1, 2] rfl)
          · have h := rk_nif hc5 h
            refine lv_aload_n hx hb dX10_mirrorsTree_107 rfl (lv_at hl 0 rfl) ?_
            refine va_get (D := D) (ci := 9) (v := .ref a_this_stackOne) (C := RX10) (T := TX10) (N := 17) hx hb htc inX10 hown hV.1 hR 0 rfl rfl 9 (by decide) (htc _ w_4_7) (fun _ h9 => h9) rfl dX10_mirrorsTree_108 ?_
            refine lv_iload_n hx hb dX10_mirrorsTree_111 rfl (lv_at hl 1 rfl) ?_
            refine lv_iload_n hx hb dX10_mirrorsTree_112 rfl (lv_at hl 3 rfl) ?_
            refine lv_iconst (v := 1) hx hb dX10_mirrorsTree_113 (by decide) ?_
            refine lv_iadd hx hb dX10_mirrorsTree_114 ?_
            refine lv_iload hx hb dX10_mirrorsTree_115 (lv_at hl 5 rfl) ?_
            refine lv_iadd hx hb dX10_mirrorsTree_117 ?_
            obtain ⟨hg6, h⟩ := rk_gd h
            refine va_iast hx hb hV.1 hP hD hS 1 0 rfl rfl hg6 dX10_mirrorsTree_118 (fun H locs hP hD hS => ?_)
            have hP : va_P D vwCl [(a_this_made, .inl (cI, 60, .inl (upd b23_c_this_made b23_l2.toNatClampNeg (((b23_c_this_stackOther (b23_l1 + (-1)).toNatClampNeg) - (1 : Int32)) - (c_this_buffer (b23_c_this_stackOne (b23_l1 + (-1)).toNatClampNeg).toNatClampNeg))))), (a_this_stackOne, .inl (cI, 64, .inl (upd b97_c_this_stackOne b97_l1.toNatClampNeg (((b23_c_this_stackOne (b23_l1 + (-1)).toNatClampNeg) + (1 : Int32)) + (c_this_buffer (b23_c_this_stackOne (b23_l1 + (-1)).toNatClampNeg).toNatClampNeg))))), (a_this_stackOther, .inl (cI, 64, .inl b97_c_this_stackOther))] H := hP
            have hD : va_D A [(a_this_made, .inl (cI, 60, .inl (upd b23_c_this_made b23_l2.toNatClampNeg (((b23_c_this_stackOther (b23_l1 + (-1)).toNatClampNeg) - (1 : Int32)) - (c_this_buffer (b23_c_this_stackOne (b23_l1 + (-1)).toNatClampNeg).toNatClampNeg))))), (a_this_stackOne, .inl (cI, 64, .inl (upd b97_c_this_stackOne b97_l1.toNatClampNeg (((b23_c_this_stackOne (b23_l1 + (-1)).toNatClampNeg) + (1 : Int32)) + (c_this_buffer (b23_c_this_stackOne (b23_l1 + (-1)).toNatClampNeg).toNatClampNeg))))), (a_this_stackOther, .inl (cI, 64, .inl b97_c_this_stackOther))] := hD
            have hR := rk_keep hR0 hn hS
            refine lv_aload_n hx hb dX10_mirrorsTree_119 rfl (lv_at hl 0 rfl) ?_
            refine va_get (D := D) (ci := 9) (v := .ref a_this_stackOther) (C := RX10) (T := TX10) (N := 17) hx hb htc inX10 hown hV.1 hR 0 rfl rfl 10 (by decide) (htc _ w_4_8) (fun _ h9 => h9) rfl dX10_mirrorsTree_120 ?_
            refine lv_iload_n hx hb dX10_mirrorsTree_123 rfl (lv_at hl 1 rfl) ?_
            refine lv_iload hx hb dX10_mirrorsTree_124 (lv_at hl 4 rfl) ?_
            refine lv_iconst (v := 1) hx hb dX10_mirrorsTree_126 (by decide) ?_
            refine lv_isub hx hb dX10_mirrorsTree_127 ?_
            refine lv_iload hx hb dX10_mirrorsTree_128 (lv_at hl 5 rfl) ?_
            refine lv_isub hx hb dX10_mirrorsTree_130 ?_
            refine va_iast hx hb hV.1 hP hD hS 2 0 rfl rfl hg6 dX10_mirrorsTree_131 (fun H locs hP hD hS => ?_)
            have hP : va_P D vwCl [(a_this_made, .inl (cI, 60, .inl (upd b23_c_this_made b23_l2.toNatClampNeg (((b23_c_this_stackOther (b23_l1 + (-1)).toNatClampNeg) - (1 : Int32)) - (c_this_buffer (b23_c_this_stackOne (b23_l1 + (-1)).toNatClampNeg).toNatClampNeg))))), (a_this_stackOne, .inl (cI, 64, .inl (upd b97_c_this_stackOne b97_l1.toNatClampNeg (((b23_c_this_stackOne (b23_l1 + (-1)).toNatClampNeg) + (1 : Int32)) + (c_this_buffer (b23_c_this_stackOne (b23_l1 + (-1)).toNatClampNeg).toNatClampNeg))))), (a_this_stackOther, .inl (cI, 64, .inl (upd b97_c_this_stackOther b97_l1.toNatClampNeg (((b23_c_this_stackOther (b23_l1 + (-1)).toNatClampNeg) - (1 : Int32)) - (c_this_buffer (b23_c_this_stackOne (b23_l1 + (-1)).toNatClampNeg).toNatClampNeg)))))] H := hP
            have hD : va_D A [(a_this_made, .inl (cI, 60, .inl (upd b23_c_this_made b23_l2.toNatClampNeg (((b23_c_this_stackOther (b23_l1 + (-1)).toNatClampNeg) - (1 : Int32)) - (c_this_buffer (b23_c_this_stackOne (b23_l1 + (-1)).toNatClampNeg).toNatClampNeg))))), (a_this_stackOne, .inl (cI, 64, .inl (upd b97_c_this_stackOne b97_l1.toNatClampNeg (((b23_c_this_stackOne (b23_l1 + (-1)).toNatClampNeg) + (1 : Int32)) + (c_this_buffer (b23_c_this_stackOne (b23_l1 + (-1)).toNatClampNeg).toNatClampNeg))))), (a_this_stackOther, .inl (cI, 64, .inl (upd b97_c_this_stackOther b97_l1.toNatClampNeg (((b23_c_this_stackOther (b23_l1 + (-1)).toNatClampNeg) - (1 : Int32)) - (c_this_buffer (b23_c_this_stackOne (b23_l1 + (-1)).toNatClampNeg).toNatClampNeg)))))] := hD
            have hR := rk_keep hR0 hn hS
            refine lv_iinc (v := (b97_l1 + 1)) (lv' := [(1, .int (b97_l1 + 1)), (0, .ref a_this), (2, .int b23_l2), (3, .int (b23_c_this_stackOne (b23_l1 + (-1)).toNatClampNeg)), (4, .int (b23_c_this_stackOther (b23_l1 + (-1)).toNatClampNeg)), (5, .int (c_this_buffer (b23_c_this_stackOne (b23_l1 + (-1)).toNatClampNeg).toNatClampNeg))]) hx hb dX10_mirrorsTree_132 hl (k := 1) rfl rfl (by decide) rfl (fun ls hl => ?_)
            exact B135 (b97_l1 + 1) (upd b97_c_this_stackOne b97_l1.toNatClampNeg (((b23_c_this_stackOne (b23_l1 + (-1)).toNatClampNeg) + (1 : Int32)) + (c_this_buffer (b23_c_this_stackOne (b23_l1 + (-1)).toNatClampNeg).toNatClampNeg))) (upd b97_c_this_stackOther b97_l1.toNatClampNeg (((b23_c_this_stackOther (b23_l1 + (-1)).toNatClampNeg) - (1 : Int32)) - (c_this_buffer (b23_c_this_stackOne (b23_l1 + (-1)).toNatClampNeg).toNatClampNeg))) h _ _ hP hD hS _ (lv_sub hl [1, 0, 2] rfl)
        refine lv_if_le (tgt := 97) hx hb dX10_mirrorsTree_74 (by decide) (fun hc7 => ?_) (fun hc7 => ?_)
        · have h := rk_if hc7 h
          exact B97 (b23_l1 + (-1)) b23_c_this_stackOne b23_c_this_stackOther h _ _ hP hD hS _ (lv_sub hl [4, 3, 5, 2, 1, 0] rfl)
        · have h := rk_nif hc7 h
          refine lv_aload_n hx hb dX10_mirrorsTree_77 rfl (lv_at hl 4 rfl) ?_
          refine va_get (D := D) (ci := 9) (v := .ref a_this_stackOne) (C := RX10) (T := TX10) (N := 17) hx hb htc inX10 hown hV.1 hR 0 rfl rfl 9 (by decide) (htc _ w_4_7) (fun _ h9 => h9) rfl dX10_mirrorsTree_78 ?_
          refine lv_iload_n hx hb dX10_mirrorsTree_81 rfl (lv_at hl 3 rfl) ?_
          refine lv_iload_n hx hb dX10_mirrorsTree_82 rfl (lv_at hl 2 rfl) ?_
          refine lv_iconst (v := 1) hx hb dX10_mirrorsTree_83 (by decide) ?_
          refine lv_iadd hx hb dX10_mirrorsTree_84 ?_
          refine va_iast hx hb hV.1 hP hD hS 1 0 rfl rfl hg2 dX10_mirrorsTree_85 (fun H locs hP hD hS => ?_)
          have hP : va_P D vwCl [(a_this_made, .inl (cI, 60, .inl (upd b23_c_this_made b23_l2.toNatClampNeg (((b23_c_this_stackOther (b23_l1 + (-1)).toNatClampNeg) - (1 : Int32)) - (c_this_buffer (b23_c_this_stackOne (b23_l1 + (-1)).toNatClampNeg).toNatClampNeg))))), (a_this_stackOne, .inl (cI, 64, .inl (upd b23_c_this_stackOne (b23_l1 + (-1)).toNatClampNeg ((b23_c_this_stackOne (b23_l1 + (-1)).toNatClampNeg) + (1 : Int32))))), (a_this_stackOther, .inl (cI, 64, .inl b23_c_this_stackOther))] H := hP
          have hD : va_D A [(a_this_made, .inl (cI, 60, .inl (upd b23_c_this_made b23_l2.toNatClampNeg (((b23_c_this_stackOther (b23_l1 + (-1)).toNatClampNeg) - (1 : Int32)) - (c_this_buffer (b23_c_this_stackOne (b23_l1 + (-1)).toNatClampNeg).toNatClampNeg))))), (a_this_stackOne, .inl (cI, 64, .inl (upd b23_c_this_stackOne (b23_l1 + (-1)).toNatClampNeg ((b23_c_this_stackOne (b23_l1 + (-1)).toNatClampNeg) + (1 : Int32))))), (a_this_stackOther, .inl (cI, 64, .inl b23_c_this_stackOther))] := hD
          have hR := rk_keep hR0 hn hS
          refine lv_aload_n hx hb dX10_mirrorsTree_86 rfl (lv_at hl 4 rfl) ?_
          refine va_get (D := D) (ci := 9) (v := .ref a_this_stackOther) (C := RX10) (T := TX10) (N := 17) hx hb htc inX10 hown hV.1 hR 0 rfl rfl 10 (by decide) (htc _ w_4_8) (fun _ h9 => h9) rfl dX10_mirrorsTree_87 ?_
          refine lv_iload_n hx hb dX10_mirrorsTree_90 rfl (lv_at hl 3 rfl) ?_
          refine lv_iload hx hb dX10_mirrorsTree_91 (lv_at hl 0 rfl) ?_
          refine va_iast hx hb hV.1 hP hD hS 2 0 rfl rfl hg2 dX10_mirrorsTree_93 (fun H locs hP hD hS => ?_)
          have hP : va_P D vwCl [(a_this_made, .inl (cI, 60, .inl (upd b23_c_this_made b23_l2.toNatClampNeg (((b23_c_this_stackOther (b23_l1 + (-1)).toNatClampNeg) - (1 : Int32)) - (c_this_buffer (b23_c_this_stackOne (b23_l1 + (-1)).toNatClampNeg).toNatClampNeg))))), (a_this_stackOne, .inl (cI, 64, .inl (upd b23_c_this_stackOne (b23_l1 + (-1)).toNatClampNeg ((b23_c_this_stackOne (b23_l1 + (-1)).toNatClampNeg) + (1 : Int32))))), (a_this_stackOther, .inl (cI, 64, .inl (upd b23_c_this_stackOther (b23_l1 + (-1)).toNatClampNeg (c_this_buffer (b23_c_this_stackOne (b23_l1 + (-1)).toNatClampNeg).toNatClampNeg))))] H := hP
          have hD : va_D A [(a_this_made, .inl (cI, 60, .inl (upd b23_c_this_made b23_l2.toNatClampNeg (((b23_c_this_stackOther (b23_l1 + (-1)).toNatClampNeg) - (1 : Int32)) - (c_this_buffer (b23_c_this_stackOne (b23_l1 + (-1)).toNatClampNeg).toNatClampNeg))))), (a_this_stackOne, .inl (cI, 64, .inl (upd b23_c_this_stackOne (b23_l1 + (-1)).toNatClampNeg ((b23_c_this_stackOne (b23_l1 + (-1)).toNatClampNeg) + (1 : Int32))))), (a_this_stackOther, .inl (cI, 64, .inl (upd b23_c_this_stackOther (b23_l1 + (-1)).toNatClampNeg (c_this_buffer (b23_c_this_stackOne (b23_l1 + (-1)).toNatClampNeg).toNatClampNeg))))] := hD
          have hR := rk_keep hR0 hn hS
          refine lv_iinc (v := ((b23_l1 + (-1)) + 1)) (lv' := [(1, .int ((b23_l1 + (-1)) + 1)), (5, .int (c_this_buffer (b23_c_this_stackOne (b23_l1 + (-1)).toNatClampNeg).toNatClampNeg)), (4, .int (b23_c_this_stackOther (b23_l1 + (-1)).toNatClampNeg)), (3, .int (b23_c_this_stackOne (b23_l1 + (-1)).toNatClampNeg)), (0, .ref a_this), (2, .int b23_l2)]) hx hb dX10_mirrorsTree_94 hl (k := 3) rfl rfl (by decide) rfl (fun ls hl => ?_)
          exact B97 ((b23_l1 + (-1)) + 1) (upd b23_c_this_stackOne (b23_l1 + (-1)).toNatClampNeg ((b23_c_this_stackOne (b23_l1 + (-1)).toNatClampNeg) + (1 : Int32))) (upd b23_c_this_stackOther (b23_l1 + (-1)).toNatClampNeg (c_this_buffer (b23_c_this_stackOne (b23_l1 + (-1)).toNatClampNeg).toNatClampNeg)) h _ _ hP hD hS _ (lv_sub hl [4, 0, 5, 3, 2, 1] rfl)
  exact L23 FU (1 : Int32) (0 : Int32) c_this_made (upd c_this_stackOne 0 (0 : Int32)) (upd c_this_stackOther 0 (c_this_of 0)) h _ _ hP hD hS _ (lv_sub hl [2, 1, 0] rfl)
set_option maxHeartbeats 4000000 in
set_option maxRecDepth 100000 in
theorem mtX10_conjugates (l : Launch) (D : va_G) (cI cJ cO : ClassId) (PL : va_W) (sz : Nat) (a_this : Nat) (a_this_chosen : Nat) (a_this_factorial : Nat) (a_this_catalan : Nat) (a_this_parted : Nat) (a_this_closed : Nat) (f_this_now : Int32) (a_this_of : Nat) (a_this_buffer : Nat) (a_this_made : Nat) (a_this_stackOne : Nat) (a_this_stackOther : Nat) (a_this_stackLong : Nat) (a_this_left : Nat) (f_this_entryMany : Int32) (a_this_entryFamily : Nat) (a_this_entryOf : Nat) (a_this_entryRank : Nat) (c_this_made : Nat → Int32) (c_this_buffer : Nat → Int32) (c_this_of : Nat → Int32) (r0 : (Nat → Int32)) (h : fX10_conjugates c_this_made c_this_buffer c_this_of = some r0) : Met l yX10_conjugates (rk_w yX10_conjugates cX10_conjugates 3 none) rmX10_conjugates (va_Pc [.ref a_this] (rk_B D (rk_TY cI cJ cO) [(a_this_made, .inl (cI, 60, .inl c_this_made))] [(a_this, .inr (9, [.ref a_this_chosen, .ref a_this_factorial, .ref a_this_catalan, .ref a_this_parted, .ref a_this_closed, .int f_this_now, .ref a_this_of, .ref a_this_buffer, .ref a_this_made, .ref a_this_stackOne, .ref a_this_stackOther, .ref a_this_stackLong, .ref a_this_left, .int f_this_entryMany, .ref a_this_entryFamily, .ref a_this_entryOf, .ref a_this_entryRank])), (a_this_buffer, .inl (cI, 60, .inl c_this_buffer)), (a_this_of, .inl (cI, 4, .inl c_this_of))] PL sz)) (rk_Qv D [(a_this_made, .inl (cI, 60, .inl r0))] [(a_this_made, .inl (cI, 60, .inl c_this_made))] sz) 0 0 (va_A [(a_this_made, .inl (cI, 60, .inl c_this_made))] sz) := by
  refine rk_metv h (fun x => [(a_this_made, .inl (cI, 60, .inl x))]) (by decide) (Nat.le_of_ble_eq_true rfl) ?_
  intro p e s m args below meth c A ls Q hret hname hF hP hD hA hV hR0 hn hPL hnl hl h hS
  have hx := hF.1
  have hb := hF.2.1
  have hml := hF.2.2.1
  have hown : s.vm.findClass RX10 = some m.cls := hF.2.2.2.1
  have htc := hF.2.2.2.2
  have hP : va_P D vwCl [(a_this_made, .inl (cI, 60, .inl c_this_made))] s.heap := hP
  have hD : va_D A [(a_this_made, .inl (cI, 60, .inl c_this_made))] := hD
  have hR0 : va_P D vwCl [(a_this, .inr (9, [.ref a_this_chosen, .ref a_this_factorial, .ref a_this_catalan, .ref a_this_parted, .ref a_this_closed, .int f_this_now, .ref a_this_of, .ref a_this_buffer, .ref a_this_made, .ref a_this_stackOne, .ref a_this_stackOther, .ref a_this_stackLong, .ref a_this_left, .int f_this_entryMany, .ref a_this_entryFamily, .ref a_this_entryOf, .ref a_this_entryRank])), (a_this_buffer, .inl (cI, 60, .inl c_this_buffer)), (a_this_of, .inl (cI, 4, .inl c_this_of))] s.heap := hR0
  have hR := hR0
  have hl : lv_has ls 3 [(0, .ref a_this)] := hl
  unfold fX10_conjugates at h
  refine lv_iconst (v := 0) hx hb dX10_conjugates_0 (by decide) ?_
  refine lv_istore_n (lv' := [(1, .int (0 : Int32)), (0, .ref a_this)]) hx hb dX10_conjugates_1 rfl hl (by decide) rfl (fun ls hl => ?_)
  have L2 : ∀ (n2 : Nat) (b2_l1 : Int32) (b2_c_this_made : Nat → Int32), rk_it2 (fX10_conjugates_L2 c_this_buffer c_this_of) n2 b2_l1 b2_c_this_made = some r0 → ∀ (H : Heap) (locs : List Loc), va_P D vwCl [(a_this_made, .inl (cI, 60, .inl b2_c_this_made))] H → va_D A [(a_this_made, .inl (cI, 60, .inl b2_c_this_made))] → va_S A s.heap H locs → ∀ (ls : Array Slot), lv_has ls 3 [(0, .ref a_this), (1, .int b2_l1)] → W p l e rmX10_conjugates s m args below meth c H locs 0 0 Q (F0 m 2 ls []) := by
    intro n2
    induction n2 with
    | zero => intro b2_l1 b2_c_this_made h; exact rk_no h
    | succ n2 ih2 =>
      intro b2_l1 b2_c_this_made h H locs hP hD hS ls hl
      have h : fX10_conjugates_L2 c_this_buffer c_this_of (rk_it2 (fX10_conjugates_L2 c_this_buffer c_this_of) n2) b2_l1 b2_c_this_made = some r0 := h
      unfold fX10_conjugates_L2 at h
      have hR := rk_keep hR0 hn hS
      refine lv_iload_n hx hb dX10_conjugates_2 rfl (lv_at hl 1 rfl) ?_
      refine lv_aload_n hx hb dX10_conjugates_3 rfl (lv_at hl 0 rfl) ?_
      refine va_get (D := D) (ci := 9) (v := .ref a_this_of) (C := RX10) (T := TX10) (N := 17) hx hb htc inX10 hown hV.1 hR 0 rfl rfl 6 (by decide) (htc _ w_4_4) (fun _ h9 => h9) rfl dX10_conjugates_4 ?_
      refine lv_iconst (v := 0) hx hb dX10_conjugates_7 (by decide) ?_
      refine va_iald hx hb hV.1 hR 2 0 rfl rfl (show vp_in (0 : Int32) 4 from (by decide : ¬ ((0 : Int32) < 0 ∨ 4 ≤ (0 : Int32).toNatClampNeg))) dX10_conjugates_8 ?_
      refine W.eq (g2 := F0 m 9 ls [.int (c_this_of 0), .int b2_l1]) rfl ?_
      refine lv_icmp_ge (tgt := 67) hx hb dX10_conjugates_9 (by decide) (fun hc1 => ?_) (fun hc1 => ?_)
      · have h := rk_if hc1 h
        exact hret b2_c_this_made _ _ _ _ h dX10_conjugates_67 hP hD hS
      · have h := rk_nif hc1 h
        refine lv_aload_n hx hb dX10_conjugates_12 rfl (lv_at hl 0 rfl) ?_
        refine va_get (D := D) (ci := 9) (v := .ref a_this_made) (C := RX10) (T := TX10) (N := 17) hx hb htc inX10 hown hV.1 hR 0 rfl rfl 8 (by decide) (htc _ w_4_6) (fun _ h9 => h9) rfl dX10_conjugates_13 ?_
        refine lv_iload_n hx hb dX10_conjugates_16 rfl (lv_at hl 1 rfl) ?_
        refine lv_iconst (v := 0) hx hb dX10_conjugates_17 (by decide) ?_
        obtain ⟨hg2, h⟩ := rk_gd h
        refine va_iast hx hb hV.1 hP hD hS 0 0 rfl rfl hg2 dX10_conjugates_18 (fun H locs hP hD hS => ?_)
        have hP : va_P D vwCl [(a_this_made, .inl (cI, 60, .inl (upd b2_c_this_made b2_l1.toNatClampNeg (0 : Int32))))] H := hP
        have hD : va_D A [(a_this_made, .inl (cI, 60, .inl (upd b2_c_this_made b2_l1.toNatClampNeg (0 : Int32))))] := hD
        have hR := rk_keep hR0 hn hS
        refine lv_iconst (v := 0) hx hb dX10_conjugates_19 (by decide) ?_
        refine lv_istore_n (lv' := [(2, .int (0 : Int32)), (0, .ref a_this), (1, .int b2_l1)]) hx hb dX10_conjugates_20 rfl hl (by decide) rfl (fun ls hl => ?_)
        have L21 : ∀ (n21 : Nat) (b21_l2 : Int32) (b21_c_this_made : Nat → Int32), rk_it2 (fX10_conjugates_L21 c_this_buffer c_this_of b2_l1 (rk_it2 (fX10_conjugates_L2 c_this_buffer c_this_of) n2)) n21 b21_l2 b21_c_this_made = some r0 → ∀ (H : Heap) (locs : List Loc), va_P D vwCl [(a_this_made, .inl (cI, 60, .inl b21_c_this_made))] H → va_D A [(a_this_made, .inl (cI, 60, .inl b21_c_this_made))] → va_S A s.heap H locs → ∀ (ls : Array Slot), lv_has ls 3 [(0, .ref a_this), (1, .int b2_l1), (2, .int b21_l2)] → W p l e rmX10_conjugates s m args below meth c H locs 0 0 Q (F0 m 21 ls []) := by
          intro n21
          induction n21 with
          | zero => intro b21_l2 b21_c_this_made h; exact rk_no h
          | succ n21 ih21 =>
            intro b21_l2 b21_c_this_made h H locs hP hD hS ls hl
            have h : fX10_conjugates_L21 c_this_buffer c_this_of b2_l1 (rk_it2 (fX10_conjugates_L2 c_this_buffer c_this_of) n2) (rk_it2 (fX10_conjugates_L21 c_this_buffer c_this_of b2_l1 (rk_it2 (fX10_conjugates_L2 c_this_buffer c_this_of) n2)) n21) b21_l2 b21_c_this_made = some r0 := h
            unfold fX10_conjugates_L21 at h
            have hR := rk_keep hR0 hn hS
            refine lv_iload_n hx hb dX10_conjugates_21 rfl (lv_at hl 2 rfl) ?_
            refine lv_aload_n hx hb dX10_conjugates_22 rfl (lv_at hl 0 rfl) ?_
            refine va_get (D := D) (ci := 9) (v := .ref a_this_of) (C := RX10) (T := TX10) (N := 17) hx hb htc inX10 hown hV.1 hR 0 rfl rfl 6 (by decide) (htc _ w_4_4) (fun _ h9 => h9) rfl dX10_conjugates_23 ?_
            refine lv_iconst (v := 0) hx hb dX10_conjugates_26 (by decide) ?_
            refine va_iald hx hb hV.1 hR 2 0 rfl rfl (show vp_in (0 : Int32) 4 from (by decide : ¬ ((0 : Int32) < 0 ∨ 4 ≤ (0 : Int32).toNatClampNeg))) dX10_conjugates_27 ?_
            refine W.eq (g2 := F0 m 28 ls [.int (c_this_of 0), .int b21_l2]) rfl ?_
            refine lv_icmp_ge (tgt := 61) hx hb dX10_conjugates_28 (by decide) (fun hc3 => ?_) (fun hc3 => ?_)
            · have h := rk_if hc3 h
              refine lv_iinc (v := (b2_l1 + 1)) (lv' := [(1, .int (b2_l1 + 1)), (0, .ref a_this), (2, .int b21_l2)]) hx hb dX10_conjugates_61 hl (k := 1) rfl rfl (by decide) rfl (fun ls hl => ?_)
              refine lv_goto (tgt := 2) hx hb dX10_conjugates_64 (by decide) ?_
              exact ih2 (b2_l1 + 1) b21_c_this_made h _ _ hP hD hS _ (lv_sub hl [1, 0] rfl)
            · have h := rk_nif hc3 h
              refine lv_aload_n hx hb dX10_conjugates_31 rfl (lv_at hl 0 rfl) ?_
              refine va_get (D := D) (ci := 9) (v := .ref a_this_made) (C := RX10) (T := TX10) (N := 17) hx hb htc inX10 hown hV.1 hR 0 rfl rfl 8 (by decide) (htc _ w_4_6) (fun _ h9 => h9) rfl dX10_conjugates_32 ?_
              refine lv_iload_n hx hb dX10_conjugates_35 rfl (lv_at hl 1 rfl) ?_
              refine lv_dup2_11 hx hb dX10_conjugates_36 rfl rfl ?_
              refine va_iald hx hb hV.1 hP 0 0 rfl rfl hg2 dX10_conjugates_37 ?_
              refine lv_aload_n hx hb dX10_conjugates_38 rfl (lv_at hl 0 rfl) ?_
              refine va_get (D := D) (ci := 9) (v := .ref a_this_buffer) (C := RX10) (T := TX10) (N := 17) hx hb htc inX10 hown hV.1 hR 0 rfl rfl 7 (by decide) (htc _ w_4_5) (fun _ h9 => h9) rfl dX10_conjugates_39 ?_
              refine lv_iload_n hx hb dX10_conjugates_42 rfl (lv_at hl 2 rfl) ?_
              obtain ⟨hg4, h⟩ := rk_gd h
              refine va_iald hx hb hV.1 hR 1 0 rfl rfl hg4 dX10_conjugates_43 ?_
              refine lv_iload_n hx hb dX10_conjugates_44 rfl (lv_at hl 1 rfl) ?_
              have B53 : ∀ (b53_t3 : Int32), fX10_conjugates_B53 b2_l1 b21_l2 b21_c_this_made (rk_it2 (fX10_conjugates_L21 c_this_buffer c_this_of b2_l1 (rk_it2 (fX10_conjugates_L2 c_this_buffer c_this_of) n2)) n21) b53_t3 = some r0 → ∀ (H : Heap) (locs : List Loc), va_P D vwCl [(a_this_made, .inl (cI, 60, .inl b21_c_this_made))] H → va_D A [(a_this_made, .inl (cI, 60, .inl b21_c_this_made))] → va_S A s.heap H locs → ∀ (ls : Array Slot), lv_has ls 3 [(0, .ref a_this), (1, .int b2_l1), (2, .int b21_l2)] → W p l e rmX10_conjugates s m args below meth c H locs 0 0 Q (F0 m 53 ls [.int b53_t3, .int (b21_c_this_made b2_l1.toNatClampNeg), .int b2_l1, .ref a_this_made]) := by
                intro b53_t3 h H locs hP hD hS ls hl
                unfold fX10_conjugates_B53 at h
                have hR := rk_keep hR0 hn hS
                refine lv_iadd hx hb dX10_conjugates_53 ?_
                refine va_iast hx hb hV.1 hP hD hS 0 0 rfl rfl hg2 dX10_conjugates_54 (fun H locs hP hD hS => ?_)
                have hP : va_P D vwCl [(a_this_made, .inl (cI, 60, .inl (upd b21_c_this_made b2_l1.toNatClampNeg ((b21_c_this_made b2_l1.toNatClampNeg) + b53_t3))))] H := hP
                have hD : va_D A [(a_this_made, .inl (cI, 60, .inl (upd b21_c_this_made b2_l1.toNatClampNeg ((b21_c_this_made b2_l1.toNatClampNeg) + b53_t3))))] := hD
                have hR := rk_keep hR0 hn hS
                refine lv_iinc (v := (b21_l2 + 1)) (lv' := [(2, .int (b21_l2 + 1)), (0, .ref a_this), (1, .int b2_l1)]) hx hb dX10_conjugates_55 hl (k := 2) rfl rfl (by decide) rfl (fun ls hl => ?_)
                refine lv_goto (tgt := 21) hx hb dX10_conjugates_58 (by decide) ?_
                exact ih21 (b21_l2 + 1) (upd b21_c_this_made b2_l1.toNatClampNeg ((b21_c_this_made b2_l1.toNatClampNeg) + b53_t3)) h _ _ hP hD hS _ (lv_sub hl [1, 2, 0] rfl)
              refine lv_icmp_le (tgt := 52) hx hb dX10_conjugates_45 (by decide) (fun hc5 => ?_) (fun hc5 => ?_)
              · have h := rk_if hc5 h
                refine lv_iconst (v := 0) hx hb dX10_conjugates_52 (by decide) ?_
                exact B53 (0 : Int32) h _ _ hP hD hS _ hl
              · have h := rk_nif hc5 h
                refine lv_iconst (v := 1) hx hb dX10_conjugates_48 (by decide) ?_
                refine lv_goto (tgt := 53) hx hb dX10_conjugates_49 (by decide) ?_
                exact B53 (1 : Int32) h _ _ hP hD hS _ hl
        exact L21 FU (0 : Int32) (upd b2_c_this_made b2_l1.toNatClampNeg (0 : Int32)) h _ _ hP hD hS _ (lv_sub hl [1, 2, 0] rfl)
  exact L2 FU (0 : Int32) c_this_made h _ _ hP hD hS _ (lv_sub hl [1, 0] rfl)
set_option maxHeartbeats 4000000 in
set_option maxRecDepth 100000 in
theorem mtX10_reverses (l : Launch) (D : va_G) (cI cJ cO : ClassId) (PL : va_W) (sz : Nat) (a_this : Nat) (a_this_chosen : Nat) (a_this_factorial : Nat) (a_this_catalan : Nat) (a_this_parted : Nat) (a_this_closed : Nat) (f_this_now : Int32) (a_this_of : Nat) (a_this_buffer : Nat) (a_this_made : Nat) (a_this_stackOne : Nat) (a_this_stackOther : Nat) (a_this_stackLong : Nat) (a_this_left : Nat) (f_this_entryMany : Int32) (a_this_entryFamily : Nat) (a_this_entryOf : Nat) (a_this_entryRank : Nat) (c_this_made : Nat → Int32) (c_this_buffer : Nat → Int32) (c_this_of : Nat → Int32) (r0 : (Nat → Int32)) (h : fX10_reverses f_this_now c_this_made c_this_buffer c_this_of = some r0) : Met l yX10_reverses (rk_w yX10_reverses cX10_reverses 2 none) rmX10_reverses (va_Pc [.ref a_this] (rk_B D (rk_TY cI cJ cO) [(a_this_made, .inl (cI, 60, .inl c_this_made))] [(a_this, .inr (9, [.ref a_this_chosen, .ref a_this_factorial, .ref a_this_catalan, .ref a_this_parted, .ref a_this_closed, .int f_this_now, .ref a_this_of, .ref a_this_buffer, .ref a_this_made, .ref a_this_stackOne, .ref a_this_stackOther, .ref a_this_stackLong, .ref a_this_left, .int f_this_entryMany, .ref a_this_entryFamily, .ref a_this_entryOf, .ref a_this_entryRank])), (a_this_buffer, .inl (cI, 60, .inl c_this_buffer)), (a_this_of, .inl (cI, 4, .inl c_this_of))] PL sz)) (rk_Qv D [(a_this_made, .inl (cI, 60, .inl r0))] [(a_this_made, .inl (cI, 60, .inl c_this_made))] sz) 0 0 (va_A [(a_this_made, .inl (cI, 60, .inl c_this_made))] sz) := by
  refine rk_metv h (fun x => [(a_this_made, .inl (cI, 60, .inl x))]) (by decide) (Nat.le_of_ble_eq_true rfl) ?_
  intro p e s m args below meth c A ls Q hret hname hF hP hD hA hV hR0 hn hPL hnl hl h hS
  have hx := hF.1
  have hb := hF.2.1
  have hml := hF.2.2.1
  have hown : s.vm.findClass RX10 = some m.cls := hF.2.2.2.1
  have htc := hF.2.2.2.2
  have hP : va_P D vwCl [(a_this_made, .inl (cI, 60, .inl c_this_made))] s.heap := hP
  have hD : va_D A [(a_this_made, .inl (cI, 60, .inl c_this_made))] := hD
  have hR0 : va_P D vwCl [(a_this, .inr (9, [.ref a_this_chosen, .ref a_this_factorial, .ref a_this_catalan, .ref a_this_parted, .ref a_this_closed, .int f_this_now, .ref a_this_of, .ref a_this_buffer, .ref a_this_made, .ref a_this_stackOne, .ref a_this_stackOther, .ref a_this_stackLong, .ref a_this_left, .int f_this_entryMany, .ref a_this_entryFamily, .ref a_this_entryOf, .ref a_this_entryRank])), (a_this_buffer, .inl (cI, 60, .inl c_this_buffer)), (a_this_of, .inl (cI, 4, .inl c_this_of))] s.heap := hR0
  have hR := hR0
  have hl : lv_has ls 2 [(0, .ref a_this)] := hl
  unfold fX10_reverses at h
  refine lv_iconst (v := 0) hx hb dX10_reverses_0 (by decide) ?_
  refine lv_istore_n (lv' := [(1, .int (0 : Int32)), (0, .ref a_this)]) hx hb dX10_reverses_1 rfl hl (by decide) rfl (fun ls hl => ?_)
  have L2 : ∀ (n2 : Nat) (b2_l1 : Int32) (b2_c_this_made : Nat → Int32), rk_it2 (fX10_reverses_L2 f_this_now c_this_buffer c_this_of) n2 b2_l1 b2_c_this_made = some r0 → ∀ (H : Heap) (locs : List Loc), va_P D vwCl [(a_this_made, .inl (cI, 60, .inl b2_c_this_made))] H → va_D A [(a_this_made, .inl (cI, 60, .inl b2_c_this_made))] → va_S A s.heap H locs → ∀ (ls : Array Slot), lv_has ls 2 [(0, .ref a_this), (1, .int b2_l1)] → W p l e rmX10_reverses s m args below meth c H locs 0 0 Q (F0 m 2 ls []) := by
    intro n2
    induction n2 with
    | zero => intro b2_l1 b2_c_this_made h; exact rk_no h
    | succ n2 ih2 =>
      intro b2_l1 b2_c_this_made h H locs hP hD hS ls hl
      have h : fX10_reverses_L2 f_this_now c_this_buffer c_this_of (rk_it2 (fX10_reverses_L2 f_this_now c_this_buffer c_this_of) n2) b2_l1 b2_c_this_made = some r0 := h
      unfold fX10_reverses_L2 at h
      have hR := rk_keep hR0 hn hS
      refine lv_iload_n hx hb dX10_reverses_2 rfl (lv_at hl 1 rfl) ?_
      refine lv_aload_n hx hb dX10_reverses_3 rfl (lv_at hl 0 rfl) ?_
      obtain ⟨r_4, hc_4, h⟩ := rk_bd h
      refine rk_i (wr := [(a_this_made, .inl (cI, 60, .inl b2_c_this_made))]) (va_runV (C := RX10) (As := []) (rest := [.int b2_l1]) hF (mtX10_longNow l D cI cJ cO PL _ a_this a_this_chosen a_this_factorial a_this_catalan a_this_parted a_this_closed f_this_now a_this_of a_this_buffer a_this_made a_this_stackOne a_this_stackOther a_this_stackLong a_this_left f_this_entryMany a_this_entryFamily a_this_entryOf a_this_entryRank c_this_of r_4 hc_4) (cwV 0 htc (rk_gV w_4_111 w_4_113 ws_48 w_1_7 w_4_114) rfl rfl rfl (by decide +kernel) ⟨(Nat.le_of_ble_eq_true rfl), (Nat.le_of_ble_eq_true rfl)⟩) (rk_preV (va_recv hV.1 hR (ci := 9) (q0 := 0) rfl rfl) (rk_preS hP hD hS hR hn hPL hnl hV [] [(false, 0), (false, 2)] rfl (by decide) rfl (by decide))) rfl rfl hl.1 rfl (lv_room (Nat.le_of_ble_eq_true rfl)) dX10_reverses_4 ⟨(Nat.le_of_ble_eq_true rfl), (Nat.le_of_ble_eq_true rfl)⟩) hP hD hS hA hR0 hn [] [0] rfl rfl (by decide) (by decide) (fun H locs hP hD hS hR => ?_)
      have hP : va_P D vwCl [(a_this_made, .inl (cI, 60, .inl b2_c_this_made))] H := hP
      have hD : va_D A [(a_this_made, .inl (cI, 60, .inl b2_c_this_made))] := hD
      refine lv_icmp_ge (tgt := 35) hx hb dX10_reverses_7 (by decide) (fun hc1 => ?_) (fun hc1 => ?_)
      · have h := rk_if hc1 h
        exact hret b2_c_this_made _ _ _ _ h dX10_reverses_35 hP hD hS
      · have h := rk_nif hc1 h
        refine lv_aload_n hx hb dX10_reverses_10 rfl (lv_at hl 0 rfl) ?_
        refine va_get (D := D) (ci := 9) (v := .ref a_this_made) (C := RX10) (T := TX10) (N := 17) hx hb htc inX10 hown hV.1 hR 0 rfl rfl 8 (by decide) (htc _ w_4_6) (fun _ h9 => h9) rfl dX10_reverses_11 ?_
        refine lv_iload_n hx hb dX10_reverses_14 rfl (lv_at hl 1 rfl) ?_
        refine lv_aload_n hx hb dX10_reverses_15 rfl (lv_at hl 0 rfl) ?_
        refine va_get (D := D) (ci := 9) (v := .ref a_this_buffer) (C := RX10) (T := TX10) (N := 17) hx hb htc inX10 hown hV.1 hR 0 rfl rfl 7 (by decide) (htc _ w_4_5) (fun _ h9 => h9) rfl dX10_reverses_16 ?_
        refine lv_aload_n hx hb dX10_reverses_19 rfl (lv_at hl 0 rfl) ?_
        obtain ⟨r_20, hc_20, h⟩ := rk_bd h
        refine rk_i (wr := [(a_this_made, .inl (cI, 60, .inl b2_c_this_made))]) (va_runV (C := RX10) (As := []) (rest := [.ref a_this_buffer, .int b2_l1, .ref a_this_made]) hF (mtX10_longNow l D cI cJ cO PL _ a_this a_this_chosen a_this_factorial a_this_catalan a_this_parted a_this_closed f_this_now a_this_of a_this_buffer a_this_made a_this_stackOne a_this_stackOther a_this_stackLong a_this_left f_this_entryMany a_this_entryFamily a_this_entryOf a_this_entryRank c_this_of r_20 hc_20) (cwV 0 htc (rk_gV w_4_111 w_4_113 ws_48 w_1_7 w_4_114) rfl rfl rfl (by decide +kernel) ⟨(Nat.le_of_ble_eq_true rfl), (Nat.le_of_ble_eq_true rfl)⟩) (rk_preV (va_recv hV.1 hR (ci := 9) (q0 := 0) rfl rfl) (rk_preS hP hD hS hR hn hPL hnl hV [] [(false, 0), (false, 2)] rfl (by decide) rfl (by decide))) rfl rfl hl.1 rfl (lv_room (Nat.le_of_ble_eq_true rfl)) dX10_reverses_20 ⟨(Nat.le_of_ble_eq_true rfl), (Nat.le_of_ble_eq_true rfl)⟩) hP hD hS hA hR0 hn [] [0] rfl rfl (by decide) (by decide) (fun H locs hP hD hS hR => ?_)
        have hP : va_P D vwCl [(a_this_made, .inl (cI, 60, .inl b2_c_this_made))] H := hP
        have hD : va_D A [(a_this_made, .inl (cI, 60, .inl b2_c_this_made))] := hD
        refine lv_iconst (v := 1) hx hb dX10_reverses_23 (by decide) ?_
        refine lv_isub hx hb dX10_reverses_24 ?_
        refine lv_iload_n hx hb dX10_reverses_25 rfl (lv_at hl 1 rfl) ?_
        refine lv_isub hx hb dX10_reverses_26 ?_
        obtain ⟨hg2, h⟩ := rk_gd h
        refine va_iald hx hb hV.1 hR 1 0 rfl rfl hg2 dX10_reverses_27 ?_
        obtain ⟨hg3, h⟩ := rk_gd h
        refine va_iast hx hb hV.1 hP hD hS 0 0 rfl rfl hg3 dX10_reverses_28 (fun H locs hP hD hS => ?_)
        have hP : va_P D vwCl [(a_this_made, .inl (cI, 60, .inl (upd b2_c_this_made b2_l1.toNatClampNeg (c_this_buffer ((r_20 - (1 : Int32)) - b2_l1).toNatClampNeg))))] H := hP
        have hD : va_D A [(a_this_made, .inl (cI, 60, .inl (upd b2_c_this_made b2_l1.toNatClampNeg (c_this_buffer ((r_20 - (1 : Int32)) - b2_l1).toNatClampNeg))))] := hD
        have hR := rk_keep hR0 hn hS
        refine lv_iinc (v := (b2_l1 + 1)) (lv' := [(1, .int (b2_l1 + 1)), (0, .ref a_this)]) hx hb dX10_reverses_29 hl (k := 1) rfl rfl (by decide) rfl (fun ls hl => ?_)
        refine lv_goto (tgt := 2) hx hb dX10_reverses_32 (by decide) ?_
        exact ih2 (b2_l1 + 1) (upd b2_c_this_made b2_l1.toNatClampNeg (c_this_buffer ((r_20 - (1 : Int32)) - b2_l1).toNatClampNeg)) h _ _ hP hD hS _ (lv_sub hl [1, 0] rfl)
  exact L2 FU (0 : Int32) c_this_made h _ _ hP hD hS _ (lv_sub hl [1, 0] rfl)
set_option maxHeartbeats 4000000 in
set_option maxRecDepth 100000 in
theorem mtX10_transform (l : Launch) (D : va_G) (cI cJ cO : ClassId) (PL : va_W) (sz : Nat) (a_this : Nat) (a_this_chosen : Nat) (a_this_factorial : Nat) (a_this_catalan : Nat) (a_this_parted : Nat) (a_this_closed : Nat) (f_this_now : Int32) (a_this_of : Nat) (a_this_buffer : Nat) (a_this_made : Nat) (a_this_stackOne : Nat) (a_this_stackOther : Nat) (a_this_stackLong : Nat) (a_this_left : Nat) (f_this_entryMany : Int32) (a_this_entryFamily : Nat) (a_this_entryOf : Nat) (a_this_entryRank : Nat) (c_this_buffer : Nat → Int32) (c_this_made : Nat → Int32) (c_this_of : Nat → Int32) (c_this_stackOne : Nat → Int32) (c_this_stackOther : Nat → Int32) (r0 : Int32 × (Nat → Int32) × (Nat → Int32) × (Nat → Int32) × (Nat → Int32) × (Nat → Int32)) (h : fX10_transform f_this_now c_this_buffer c_this_made c_this_of c_this_stackOne c_this_stackOther = some r0) : Met l yX10_transform (rk_w yX10_transform cX10_transform 1 (some .int)) rmX10_transform (va_Pc [.ref a_this] (rk_B D (rk_TY cI cJ cO) [(a_this_buffer, .inl (cI, 60, .inl c_this_buffer)), (a_this_made, .inl (cI, 60, .inl c_this_made)), (a_this_of, .inl (cI, 4, .inl c_this_of)), (a_this_stackOne, .inl (cI, 64, .inl c_this_stackOne)), (a_this_stackOther, .inl (cI, 64, .inl c_this_stackOther))] [(a_this, .inr (9, [.ref a_this_chosen, .ref a_this_factorial, .ref a_this_catalan, .ref a_this_parted, .ref a_this_closed, .int f_this_now, .ref a_this_of, .ref a_this_buffer, .ref a_this_made, .ref a_this_stackOne, .ref a_this_stackOther, .ref a_this_stackLong, .ref a_this_left, .int f_this_entryMany, .ref a_this_entryFamily, .ref a_this_entryOf, .ref a_this_entryRank]))] PL sz)) (rk_Qi r0.1 D [(a_this_buffer, .inl (cI, 60, .inl r0.2.1)), (a_this_made, .inl (cI, 60, .inl r0.2.2.1)), (a_this_of, .inl (cI, 4, .inl r0.2.2.2.1)), (a_this_stackOne, .inl (cI, 64, .inl r0.2.2.2.2.1)), (a_this_stackOther, .inl (cI, 64, .inl r0.2.2.2.2.2))] [(a_this_buffer, .inl (cI, 60, .inl c_this_buffer)), (a_this_made, .inl (cI, 60, .inl c_this_made)), (a_this_of, .inl (cI, 4, .inl c_this_of)), (a_this_stackOne, .inl (cI, 64, .inl c_this_stackOne)), (a_this_stackOther, .inl (cI, 64, .inl c_this_stackOther))] sz) 0 0 (va_A [(a_this_buffer, .inl (cI, 60, .inl c_this_buffer)), (a_this_made, .inl (cI, 60, .inl c_this_made)), (a_this_of, .inl (cI, 4, .inl c_this_of)), (a_this_stackOne, .inl (cI, 64, .inl c_this_stackOne)), (a_this_stackOther, .inl (cI, 64, .inl c_this_stackOther))] sz) := by
  refine rk_meti h (fun x : Int32 × (Nat → Int32) × (Nat → Int32) × (Nat → Int32) × (Nat → Int32) × (Nat → Int32) => x.1) (fun x => [(a_this_buffer, .inl (cI, 60, .inl x.2.1)), (a_this_made, .inl (cI, 60, .inl x.2.2.1)), (a_this_of, .inl (cI, 4, .inl x.2.2.2.1)), (a_this_stackOne, .inl (cI, 64, .inl x.2.2.2.2.1)), (a_this_stackOther, .inl (cI, 64, .inl x.2.2.2.2.2))]) (by decide) (Nat.le_of_ble_eq_true rfl) ?_
  intro p e s m args below meth c A ls Q hret hname hF hP hD hA hV hR0 hn hPL hnl hl h hS
  have hx := hF.1
  have hb := hF.2.1
  have hml := hF.2.2.1
  have hown : s.vm.findClass RX10 = some m.cls := hF.2.2.2.1
  have htc := hF.2.2.2.2
  have hP : va_P D vwCl [(a_this_buffer, .inl (cI, 60, .inl c_this_buffer)), (a_this_made, .inl (cI, 60, .inl c_this_made)), (a_this_of, .inl (cI, 4, .inl c_this_of)), (a_this_stackOne, .inl (cI, 64, .inl c_this_stackOne)), (a_this_stackOther, .inl (cI, 64, .inl c_this_stackOther))] s.heap := hP
  have hD : va_D A [(a_this_buffer, .inl (cI, 60, .inl c_this_buffer)), (a_this_made, .inl (cI, 60, .inl c_this_made)), (a_this_of, .inl (cI, 4, .inl c_this_of)), (a_this_stackOne, .inl (cI, 64, .inl c_this_stackOne)), (a_this_stackOther, .inl (cI, 64, .inl c_this_stackOther))] := hD
  have hR0 : va_P D vwCl [(a_this, .inr (9, [.ref a_this_chosen, .ref a_this_factorial, .ref a_this_catalan, .ref a_this_parted, .ref a_this_closed, .int f_this_now, .ref a_this_of, .ref a_this_buffer, .ref a_this_made, .ref a_this_stackOne, .ref a_this_stackOther, .ref a_this_stackLong, .ref a_this_left, .int f_this_entryMany, .ref a_this_entryFamily, .ref a_this_entryOf, .ref a_this_entryRank]))] s.heap := hR0
  have hR := hR0
  have hl : lv_has ls 1 [(0, .ref a_this)] := hl
  unfold fX10_transform at h
  refine lv_aload_n hx hb dX10_transform_0 rfl (lv_at hl 0 rfl) ?_
  obtain ⟨r_1, hc_1, h⟩ := rk_bd h
  refine rk_i (wr := [(a_this_buffer, .inl (cI, 60, .inl c_this_buffer)), (a_this_made, .inl (cI, 60, .inl c_this_made)), (a_this_of, .inl (cI, 4, .inl c_this_of)), (a_this_stackOther, .inl (cI, 64, .inl c_this_stackOther))]) (va_runV (C := RX10) (As := []) (rest := []) hF (mtX10_isGood l D cI cJ cO PL _ a_this a_this_chosen a_this_factorial a_this_catalan a_this_parted a_this_closed f_this_now a_this_of a_this_buffer a_this_made a_this_stackOne a_this_stackOther a_this_stackLong a_this_left f_this_entryMany a_this_entryFamily a_this_entryOf a_this_entryRank c_this_stackOne c_this_buffer c_this_of r_1 hc_1) (cwV 0 htc (rk_gV w_4_189 w_4_191 ws_54 w_1_7 w_4_192) rfl rfl rfl (by decide +kernel) ⟨(Nat.le_of_ble_eq_true rfl), (Nat.le_of_ble_eq_true rfl)⟩) (rk_preV (va_recv hV.1 hR (ci := 9) (q0 := 0) rfl rfl) (rk_preS hP hD hS hR hn hPL hnl hV [3] [(false, 0), (true, 0), (true, 2)] rfl (by decide) rfl (by decide))) rfl rfl hl.1 rfl (lv_room (Nat.le_of_ble_eq_true rfl)) dX10_transform_1 ⟨(Nat.le_of_ble_eq_true rfl), (Nat.le_of_ble_eq_true rfl)⟩) hP hD hS hA hR0 hn [3] [0, 1, 2, 4] rfl rfl (by decide) (by decide) (fun H locs hP hD hS hR => ?_)
  have hP : va_P D vwCl [(a_this_buffer, .inl (cI, 60, .inl c_this_buffer)), (a_this_made, .inl (cI, 60, .inl c_this_made)), (a_this_of, .inl (cI, 4, .inl c_this_of)), (a_this_stackOther, .inl (cI, 64, .inl c_this_stackOther)), (a_this_stackOne, .inl (cI, 64, .inl r_1.2))] H := hP
  have hD : va_D A [(a_this_buffer, .inl (cI, 60, .inl c_this_buffer)), (a_this_made, .inl (cI, 60, .inl c_this_made)), (a_this_of, .inl (cI, 4, .inl c_this_of)), (a_this_stackOther, .inl (cI, 64, .inl c_this_stackOther)), (a_this_stackOne, .inl (cI, 64, .inl r_1.2))] := hD
  refine lv_if_ne (tgt := 10) hx hb dX10_transform_4 (by decide) (fun hc1 => ?_) (fun hc1 => ?_)
  · have h := rk_if hc1 h
    refine lv_aload_n hx hb dX10_transform_10 rfl (lv_at hl 0 rfl) ?_
    refine va_get (D := D) (ci := 9) (v := .int f_this_now) (C := RX10) (T := TX10) (N := 17) hx hb htc inX10 hown hV.1 hR 0 rfl rfl 5 (by decide) (htc _ w_4_3) (fun _ h9 => h9) rfl dX10_transform_11 ?_
    have B108 : ∀ (b108_c_this_made : Nat → Int32) (b108_c_this_stackOne : Nat → Int32) (b108_c_this_stackOther : Nat → Int32), fX10_transform_B108 f_this_now c_this_buffer c_this_of b108_c_this_made b108_c_this_stackOne b108_c_this_stackOther = some r0 → ∀ (H : Heap) (locs : List Loc), va_P D vwCl [(a_this_buffer, .inl (cI, 60, .inl c_this_buffer)), (a_this_made, .inl (cI, 60, .inl b108_c_this_made)), (a_this_of, .inl (cI, 4, .inl c_this_of)), (a_this_stackOther, .inl (cI, 64, .inl b108_c_this_stackOther)), (a_this_stackOne, .inl (cI, 64, .inl b108_c_this_stackOne))] H → va_D A [(a_this_buffer, .inl (cI, 60, .inl c_this_buffer)), (a_this_made, .inl (cI, 60, .inl b108_c_this_made)), (a_this_of, .inl (cI, 4, .inl c_this_of)), (a_this_stackOther, .inl (cI, 64, .inl b108_c_this_stackOther)), (a_this_stackOne, .inl (cI, 64, .inl b108_c_this_stackOne))] → va_S A s.heap H locs → ∀ (ls : Array Slot), lv_has ls 1 [(0, .ref a_this)] → W p l e rmX10_transform s m args below meth c H locs 0 0 Q (F0 m 108 ls []) := by
      intro b108_c_this_made b108_c_this_stackOne b108_c_this_stackOther h H locs hP hD hS ls hl
      unfold fX10_transform_B108 at h
      have hR := rk_keep hR0 hn hS
      refine lv_aload_n hx hb dX10_transform_108 rfl (lv_at hl 0 rfl) ?_
      obtain ⟨r_109, hc_109, h⟩ := rk_bd h
      refine rk_i (wr := [(a_this_made, .inl (cI, 60, .inl b108_c_this_made)), (a_this_of, .inl (cI, 4, .inl c_this_of)), (a_this_stackOther, .inl (cI, 64, .inl b108_c_this_stackOther)), (a_this_stackOne, .inl (cI, 64, .inl b108_c_this_stackOne))]) (va_runV (C := RX10) (As := []) (rest := []) hF (mtX10_stores l D cI cJ cO PL _ a_this a_this_chosen a_this_factorial a_this_catalan a_this_parted a_this_closed f_this_now a_this_of a_this_buffer a_this_made a_this_stackOne a_this_stackOther a_this_stackLong a_this_left f_this_entryMany a_this_entryFamily a_this_entryOf a_this_entryRank c_this_buffer b108_c_this_made c_this_of r_109 hc_109) (cwV 0 htc (rk_gV w_4_123 w_4_125 ws_51 w_1_7 w_4_126) rfl rfl rfl (by decide +kernel) ⟨(Nat.le_of_ble_eq_true rfl), (Nat.le_of_ble_eq_true rfl)⟩) (rk_preV (va_recv hV.1 hR (ci := 9) (q0 := 0) rfl rfl) (rk_preS hP hD hS hR hn hPL hnl hV [0] [(false, 0), (true, 1), (true, 2)] rfl (by decide) rfl (by decide))) rfl rfl hl.1 rfl (lv_room (Nat.le_of_ble_eq_true rfl)) dX10_transform_109 ⟨(Nat.le_of_ble_eq_true rfl), (Nat.le_of_ble_eq_true rfl)⟩) hP hD hS hA hR0 hn [0] [1, 2, 3, 4] rfl rfl (by decide) (by decide) (fun H locs hP hD hS hR => ?_)
      have hP : va_P D vwCl [(a_this_made, .inl (cI, 60, .inl b108_c_this_made)), (a_this_of, .inl (cI, 4, .inl c_this_of)), (a_this_stackOther, .inl (cI, 64, .inl b108_c_this_stackOther)), (a_this_stackOne, .inl (cI, 64, .inl b108_c_this_stackOne)), (a_this_buffer, .inl (cI, 60, .inl r_109.2))] H := hP
      have hD : va_D A [(a_this_made, .inl (cI, 60, .inl b108_c_this_made)), (a_this_of, .inl (cI, 4, .inl c_this_of)), (a_this_stackOther, .inl (cI, 64, .inl b108_c_this_stackOther)), (a_this_stackOne, .inl (cI, 64, .inl b108_c_this_stackOne)), (a_this_buffer, .inl (cI, 60, .inl r_109.2))] := hD
      refine lv_if_eq (tgt := 119) hx hb dX10_transform_112 (by decide) (fun hc2 => ?_) (fun hc2 => ?_)
      · have h := rk_if hc2 h
        refine lv_iconst (v := 0) hx hb dX10_transform_119 (by decide) ?_
        exact hret ((0 : Int32), r_109.2, b108_c_this_made, c_this_of, b108_c_this_stackOne, b108_c_this_stackOther) _ _ _ _ h dX10_transform_120 (hP.sub [4, 0, 1, 3, 2] rfl) (hD.sub [4, 0, 1, 3, 2] (by decide) rfl) hS
      · have h := rk_nif hc2 h
        refine lv_iconst (v := 1) hx hb dX10_transform_115 (by decide) ?_
        refine lv_goto (tgt := 120) hx hb dX10_transform_116 (by decide) ?_
        exact hret ((1 : Int32), r_109.2, b108_c_this_made, c_this_of, b108_c_this_stackOne, b108_c_this_stackOther) _ _ _ _ h dX10_transform_120 (hP.sub [4, 0, 1, 3, 2] rfl) (hD.sub [4, 0, 1, 3, 2] (by decide) rfl) hS
    by_cases hk3 : f_this_now = 0
    · have h := rk_if hk3 h
      refine lv_tableIn (off := 34) (tgt := 48) hx hb dX10_transform_14 (by rw [hk3]; decide) (by rw [hk3]; decide) (by rw [hk3]; decide) (by decide) ?_
      refine lv_aload_n hx hb dX10_transform_48 rfl (lv_at hl 0 rfl) ?_
      obtain ⟨r_49, hc_49, h⟩ := rk_bd h
      refine rk_i (wr := [(a_this_stackOther, .inl (cI, 64, .inl c_this_stackOther)), (a_this_stackOne, .inl (cI, 64, .inl r_1.2))]) (va_runV (C := RX10) (As := []) (rest := []) hF (mtX10_complements l D cI cJ cO PL _ a_this a_this_chosen a_this_factorial a_this_catalan a_this_parted a_this_closed f_this_now a_this_of a_this_buffer a_this_made a_this_stackOne a_this_stackOther a_this_stackLong a_this_left f_this_entryMany a_this_entryFamily a_this_entryOf a_this_entryRank c_this_buffer c_this_made c_this_of r_49 hc_49) (cwV 0 htc (rk_gV w_5_38 w_5_40 ws_70 w_1_7 w_5_41) rfl rfl rfl (by decide +kernel) ⟨(Nat.le_of_ble_eq_true rfl), (Nat.le_of_ble_eq_true rfl)⟩) (rk_preV (va_recv hV.1 hR (ci := 9) (q0 := 0) rfl rfl) (rk_preS hP hD hS hR hn hPL hnl hV [0, 1, 2] [(false, 0)] rfl (by decide) rfl (by decide))) rfl rfl hl.1 rfl (lv_room (Nat.le_of_ble_eq_true rfl)) dX10_transform_49 ⟨(Nat.le_of_ble_eq_true rfl), (Nat.le_of_ble_eq_true rfl)⟩) hP hD hS hA hR0 hn [0, 1, 2] [3, 4] rfl rfl (by decide) (by decide) (fun H locs hP hD hS hR => ?_)
      have hP : va_P D vwCl [(a_this_stackOther, .inl (cI, 64, .inl c_this_stackOther)), (a_this_stackOne, .inl (cI, 64, .inl r_1.2)), (a_this_buffer, .inl (cI, 60, .inl r_49.2.1)), (a_this_made, .inl (cI, 60, .inl r_49.2.2.1)), (a_this_of, .inl (cI, 4, .inl r_49.2.2.2))] H := hP
      have hD : va_D A [(a_this_stackOther, .inl (cI, 64, .inl c_this_stackOther)), (a_this_stackOne, .inl (cI, 64, .inl r_1.2)), (a_this_buffer, .inl (cI, 60, .inl r_49.2.1)), (a_this_made, .inl (cI, 60, .inl r_49.2.2.1)), (a_this_of, .inl (cI, 4, .inl r_49.2.2.2))] := hD
      refine lv_if_eq (tgt := 59) hx hb dX10_transform_52 (by decide) (fun hc4 => ?_) (fun hc4 => ?_)
      · have h := rk_if hc4 h
        refine lv_iconst (v := 0) hx hb dX10_transform_59 (by decide) ?_
        exact hret ((0 : Int32), r_49.2.1, r_49.2.2.1, r_49.2.2.2, r_1.2, c_this_stackOther) _ _ _ _ h dX10_transform_60 (hP.sub [2, 3, 4, 1, 0] rfl) (hD.sub [2, 3, 4, 1, 0] (by decide) rfl) hS
      · have h := rk_nif hc4 h
        refine lv_iconst (v := 1) hx hb dX10_transform_55 (by decide) ?_
        refine lv_goto (tgt := 60) hx hb dX10_transform_56 (by decide) ?_
        exact hret ((1 : Int32), r_49.2.1, r_49.2.2.1, r_49.2.2.2, r_1.2, c_this_stackOther) _ _ _ _ h dX10_transform_60 (hP.sub [2, 3, 4, 1, 0] rfl) (hD.sub [2, 3, 4, 1, 0] (by decide) rfl) hS
    have h := rk_nif hk3 h
    by_cases hk5 : f_this_now = 1
    · have h := rk_if hk5 h
      refine lv_tableIn (off := 47) (tgt := 61) hx hb dX10_transform_14 (by rw [hk5]; decide) (by rw [hk5]; decide) (by rw [hk5]; decide) (by decide) ?_
      refine lv_aload_n hx hb dX10_transform_61 rfl (lv_at hl 0 rfl) ?_
      obtain ⟨r_62, hc_62, h⟩ := rk_bd h
      refine rk_v (wr := [(a_this_buffer, .inl (cI, 60, .inl c_this_buffer)), (a_this_of, .inl (cI, 4, .inl c_this_of)), (a_this_stackOther, .inl (cI, 64, .inl c_this_stackOther)), (a_this_stackOne, .inl (cI, 64, .inl r_1.2))]) (va_runV (C := RX10) (As := []) (rest := []) hF (mtX10_inverts l D cI cJ cO PL _ a_this a_this_chosen a_this_factorial a_this_catalan a_this_parted a_this_closed f_this_now a_this_of a_this_buffer a_this_made a_this_stackOne a_this_stackOther a_this_stackLong a_this_left f_this_entryMany a_this_entryFamily a_this_entryOf a_this_entryRank c_this_made c_this_buffer c_this_of r_62 hc_62) (cwV 0 htc (rk_gV w_5_42 w_5_44 ws_71 w_1_7 w_5_45) rfl rfl rfl (by decide +kernel) ⟨(Nat.le_of_ble_eq_true rfl), (Nat.le_of_ble_eq_true rfl)⟩) (rk_preV (va_recv hV.1 hR (ci := 9) (q0 := 0) rfl rfl) (rk_preS hP hD hS hR hn hPL hnl hV [1] [(false, 0), (true, 0), (true, 2)] rfl (by decide) rfl (by decide))) rfl rfl hl.1 rfl (lv_room (Nat.le_of_ble_eq_true rfl)) dX10_transform_62 ⟨(Nat.le_of_ble_eq_true rfl), (Nat.le_of_ble_eq_true rfl)⟩) hP hD hS hA hR0 hn [1] [0, 2, 3, 4] rfl rfl (by decide) (by decide) (fun H locs hP hD hS hR => ?_)
      have hP : va_P D vwCl [(a_this_buffer, .inl (cI, 60, .inl c_this_buffer)), (a_this_of, .inl (cI, 4, .inl c_this_of)), (a_this_stackOther, .inl (cI, 64, .inl c_this_stackOther)), (a_this_stackOne, .inl (cI, 64, .inl r_1.2)), (a_this_made, .inl (cI, 60, .inl r_62))] H := hP
      have hD : va_D A [(a_this_buffer, .inl (cI, 60, .inl c_this_buffer)), (a_this_of, .inl (cI, 4, .inl c_this_of)), (a_this_stackOther, .inl (cI, 64, .inl c_this_stackOther)), (a_this_stackOne, .inl (cI, 64, .inl r_1.2)), (a_this_made, .inl (cI, 60, .inl r_62))] := hD
      refine lv_goto (tgt := 108) hx hb dX10_transform_65 (by decide) ?_
      exact B108 r_62 r_1.2 c_this_stackOther h _ _ (hP.sub [0, 4, 1, 2, 3] rfl) (hD.sub [0, 4, 1, 2, 3] (by decide) rfl) hS _ hl
    have h := rk_nif hk5 h
    by_cases hk6 : f_this_now = 2
    · have h := rk_if hk6 h
      refine lv_tableIn (off := 54) (tgt := 68) hx hb dX10_transform_14 (by rw [hk6]; decide) (by rw [hk6]; decide) (by rw [hk6]; decide) (by decide) ?_
      refine lv_aload_n hx hb dX10_transform_68 rfl (lv_at hl 0 rfl) ?_
      obtain ⟨r_69, hc_69, h⟩ := rk_bd h
      refine rk_v (wr := [(a_this_buffer, .inl (cI, 60, .inl c_this_buffer)), (a_this_of, .inl (cI, 4, .inl c_this_of)), (a_this_stackOther, .inl (cI, 64, .inl c_this_stackOther)), (a_this_stackOne, .inl (cI, 64, .inl r_1.2))]) (va_runV (C := RX10) (As := []) (rest := []) hF (mtX10_mirrorsWord l D cI cJ cO PL _ a_this a_this_chosen a_this_factorial a_this_catalan a_this_parted a_this_closed f_this_now a_this_of a_this_buffer a_this_made a_this_stackOne a_this_stackOther a_this_stackLong a_this_left f_this_entryMany a_this_entryFamily a_this_entryOf a_this_entryRank c_this_made c_this_buffer c_this_of r_69 hc_69) (cwV 0 htc (rk_gV w_5_46 w_5_48 ws_72 w_1_7 w_5_49) rfl rfl rfl (by decide +kernel) ⟨(Nat.le_of_ble_eq_true rfl), (Nat.le_of_ble_eq_true rfl)⟩) (rk_preV (va_recv hV.1 hR (ci := 9) (q0 := 0) rfl rfl) (rk_preS hP hD hS hR hn hPL hnl hV [1] [(false, 0), (true, 0), (true, 2)] rfl (by decide) rfl (by decide))) rfl rfl hl.1 rfl (lv_room (Nat.le_of_ble_eq_true rfl)) dX10_transform_69 ⟨(Nat.le_of_ble_eq_true rfl), (Nat.le_of_ble_eq_true rfl)⟩) hP hD hS hA hR0 hn [1] [0, 2, 3, 4] rfl rfl (by decide) (by decide) (fun H locs hP hD hS hR => ?_)
      have hP : va_P D vwCl [(a_this_buffer, .inl (cI, 60, .inl c_this_buffer)), (a_this_of, .inl (cI, 4, .inl c_this_of)), (a_this_stackOther, .inl (cI, 64, .inl c_this_stackOther)), (a_this_stackOne, .inl (cI, 64, .inl r_1.2)), (a_this_made, .inl (cI, 60, .inl r_69))] H := hP
      have hD : va_D A [(a_this_buffer, .inl (cI, 60, .inl c_this_buffer)), (a_this_of, .inl (cI, 4, .inl c_this_of)), (a_this_stackOther, .inl (cI, 64, .inl c_this_stackOther)), (a_this_stackOne, .inl (cI, 64, .inl r_1.2)), (a_this_made, .inl (cI, 60, .inl r_69))] := hD
      refine lv_goto (tgt := 108) hx hb dX10_transform_72 (by decide) ?_
      exact B108 r_69 r_1.2 c_this_stackOther h _ _ (hP.sub [0, 4, 1, 2, 3] rfl) (hD.sub [0, 4, 1, 2, 3] (by decide) rfl) hS _ hl
    have h := rk_nif hk6 h
    by_cases hk7 : f_this_now = 3
    · have h := rk_if hk7 h
      refine lv_tableIn (off := 61) (tgt := 75) hx hb dX10_transform_14 (by rw [hk7]; decide) (by rw [hk7]; decide) (by rw [hk7]; decide) (by decide) ?_
      refine lv_aload_n hx hb dX10_transform_75 rfl (lv_at hl 0 rfl) ?_
      obtain ⟨r_76, hc_76, h⟩ := rk_bd h
      refine rk_v (wr := [(a_this_buffer, .inl (cI, 60, .inl c_this_buffer)), (a_this_of, .inl (cI, 4, .inl c_this_of))]) (va_runV (C := RX10) (As := []) (rest := []) hF (mtX10_mirrorsTree l D cI cJ cO PL _ a_this a_this_chosen a_this_factorial a_this_catalan a_this_parted a_this_closed f_this_now a_this_of a_this_buffer a_this_made a_this_stackOne a_this_stackOther a_this_stackLong a_this_left f_this_entryMany a_this_entryFamily a_this_entryOf a_this_entryRank c_this_made r_1.2 c_this_stackOther c_this_buffer c_this_of r_76 hc_76) (cwV 0 htc (rk_gV w_5_50 w_5_52 ws_73 w_1_7 w_5_53) rfl rfl rfl (by decide +kernel) ⟨(Nat.le_of_ble_eq_true rfl), (Nat.le_of_ble_eq_true rfl)⟩) (rk_preV (va_recv hV.1 hR (ci := 9) (q0 := 0) rfl rfl) (rk_preS hP hD hS hR hn hPL hnl hV [1, 4, 3] [(false, 0), (true, 0), (true, 2)] rfl (by decide) rfl (by decide))) rfl rfl hl.1 rfl (lv_room (Nat.le_of_ble_eq_true rfl)) dX10_transform_76 ⟨(Nat.le_of_ble_eq_true rfl), (Nat.le_of_ble_eq_true rfl)⟩) hP hD hS hA hR0 hn [1, 4, 3] [0, 2] rfl rfl (by decide) (by decide) (fun H locs hP hD hS hR => ?_)
      have hP : va_P D vwCl [(a_this_buffer, .inl (cI, 60, .inl c_this_buffer)), (a_this_of, .inl (cI, 4, .inl c_this_of)), (a_this_made, .inl (cI, 60, .inl r_76.1)), (a_this_stackOne, .inl (cI, 64, .inl r_76.2.1)), (a_this_stackOther, .inl (cI, 64, .inl r_76.2.2))] H := hP
      have hD : va_D A [(a_this_buffer, .inl (cI, 60, .inl c_this_buffer)), (a_this_of, .inl (cI, 4, .inl c_this_of)), (a_this_made, .inl (cI, 60, .inl r_76.1)), (a_this_stackOne, .inl (cI, 64, .inl r_76.2.1)), (a_this_stackOther, .inl (cI, 64, .inl r_76.2.2))] := hD
      refine lv_goto (tgt := 108) hx hb dX10_transform_79 (by decide) ?_
      exact B108 r_76.1 r_76.2.1 r_76.2.2 h _ _ (hP.sub [0, 2, 1, 4, 3] rfl) (hD.sub [0, 2, 1, 4, 3] (by decide) rfl) hS _ hl
    have h := rk_nif hk7 h
    by_cases hk8 : f_this_now = 4
    · have h := rk_if hk8 h
      refine lv_tableIn (off := 68) (tgt := 82) hx hb dX10_transform_14 (by rw [hk8]; decide) (by rw [hk8]; decide) (by rw [hk8]; decide) (by decide) ?_
      refine lv_aload_n hx hb dX10_transform_82 rfl (lv_at hl 0 rfl) ?_
      obtain ⟨r_83, hc_83, h⟩ := rk_bd h
      refine rk_v (wr := [(a_this_buffer, .inl (cI, 60, .inl c_this_buffer)), (a_this_of, .inl (cI, 4, .inl c_this_of)), (a_this_stackOther, .inl (cI, 64, .inl c_this_stackOther)), (a_this_stackOne, .inl (cI, 64, .inl r_1.2))]) (va_runV (C := RX10) (As := []) (rest := []) hF (mtX10_conjugates l D cI cJ cO PL _ a_this a_this_chosen a_this_factorial a_this_catalan a_this_parted a_this_closed f_this_now a_this_of a_this_buffer a_this_made a_this_stackOne a_this_stackOther a_this_stackLong a_this_left f_this_entryMany a_this_entryFamily a_this_entryOf a_this_entryRank c_this_made c_this_buffer c_this_of r_83 hc_83) (cwV 0 htc (rk_gV w_5_54 w_5_56 ws_74 w_1_7 w_5_57) rfl rfl rfl (by decide +kernel) ⟨(Nat.le_of_ble_eq_true rfl), (Nat.le_of_ble_eq_true rfl)⟩) (rk_preV (va_recv hV.1 hR (ci := 9) (q0 := 0) rfl rfl) (rk_preS hP hD hS hR hn hPL hnl hV [1] [(false, 0), (true, 0), (true, 2)] rfl (by decide) rfl (by decide))) rfl rfl hl.1 rfl (lv_room (Nat.le_of_ble_eq_true rfl)) dX10_transform_83 ⟨(Nat.le_of_ble_eq_true rfl), (Nat.le_of_ble_eq_true rfl)⟩) hP hD hS hA hR0 hn [1] [0, 2, 3, 4] rfl rfl (by decide) (by decide) (fun H locs hP hD hS hR => ?_)
      have hP : va_P D vwCl [(a_this_buffer, .inl (cI, 60, .inl c_this_buffer)), (a_this_of, .inl (cI, 4, .inl c_this_of)), (a_this_stackOther, .inl (cI, 64, .inl c_this_stackOther)), (a_this_stackOne, .inl (cI, 64, .inl r_1.2)), (a_this_made, .inl (cI, 60, .inl r_83))] H := hP
      have hD : va_D A [(a_this_buffer, .inl (cI, 60, .inl c_this_buffer)), (a_this_of, .inl (cI, 4, .inl c_this_of)), (a_this_stackOther, .inl (cI, 64, .inl c_this_stackOther)), (a_this_stackOne, .inl (cI, 64, .inl r_1.2)), (a_this_made, .inl (cI, 60, .inl r_83))] := hD
      refine lv_aload_n hx hb dX10_transform_86 rfl (lv_at hl 0 rfl) ?_
      refine va_get (D := D) (ci := 9) (v := .ref a_this_made) (C := RX10) (T := TX10) (N := 17) hx hb htc inX10 hown hV.1 hR 0 rfl rfl 8 (by decide) (htc _ w_4_6) (fun _ h9 => h9) rfl dX10_transform_87 ?_
      refine lv_iconst (v := 0) hx hb dX10_transform_90 (by decide) ?_
      refine va_iald hx hb hV.1 hP 4 0 rfl rfl (show vp_in (0 : Int32) 60 from (by decide : ¬ ((0 : Int32) < 0 ∨ 60 ≤ (0 : Int32).toNatClampNeg))) dX10_transform_91 ?_
      refine W.eq (g2 := F0 m 92 ls [.int (r_83 0)]) rfl ?_
      refine lv_aload_n hx hb dX10_transform_92 rfl (lv_at hl 0 rfl) ?_
      refine va_get (D := D) (ci := 9) (v := .ref a_this_of) (C := RX10) (T := TX10) (N := 17) hx hb htc inX10 hown hV.1 hR 0 rfl rfl 6 (by decide) (htc _ w_4_4) (fun _ h9 => h9) rfl dX10_transform_93 ?_
      refine lv_iconst (v := 1) hx hb dX10_transform_96 (by decide) ?_
      refine va_iald hx hb hV.1 hP 1 0 rfl rfl (show vp_in (1 : Int32) 4 from (by decide : ¬ ((1 : Int32) < 0 ∨ 4 ≤ (1 : Int32).toNatClampNeg))) dX10_transform_97 ?_
      refine W.eq (g2 := F0 m 98 ls [.int (c_this_of 1), .int (r_83 0)]) rfl ?_
      refine lv_icmp_le (tgt := 108) hx hb dX10_transform_98 (by decide) (fun hc9 => ?_) (fun hc9 => ?_)
      · have h := rk_if hc9 h
        exact B108 r_83 r_1.2 c_this_stackOther h _ _ (hP.sub [0, 4, 1, 2, 3] rfl) (hD.sub [0, 4, 1, 2, 3] (by decide) rfl) hS _ hl
      · have h := rk_nif hc9 h
        refine lv_bipush (v := (-6)) hx hb dX10_transform_101 (by decide) ?_
        exact hret ((-6 : Int32), c_this_buffer, r_83, c_this_of, r_1.2, c_this_stackOther) _ _ _ _ h dX10_transform_103 (hP.sub [0, 4, 1, 3, 2] rfl) (hD.sub [0, 4, 1, 3, 2] (by decide) rfl) hS
    have h := rk_nif hk8 h
    refine lv_tableOut (tgt := 104) hx hb dX10_transform_14 (rk_tb5 hk3 hk5 hk6 hk7 hk8) (by decide) ?_
    refine lv_aload_n hx hb dX10_transform_104 rfl (lv_at hl 0 rfl) ?_
    obtain ⟨r_105, hc_105, h⟩ := rk_bd h
    refine rk_v (wr := [(a_this_buffer, .inl (cI, 60, .inl c_this_buffer)), (a_this_of, .inl (cI, 4, .inl c_this_of)), (a_this_stackOther, .inl (cI, 64, .inl c_this_stackOther)), (a_this_stackOne, .inl (cI, 64, .inl r_1.2))]) (va_runV (C := RX10) (As := []) (rest := []) hF (mtX10_reverses l D cI cJ cO PL _ a_this a_this_chosen a_this_factorial a_this_catalan a_this_parted a_this_closed f_this_now a_this_of a_this_buffer a_this_made a_this_stackOne a_this_stackOther a_this_stackLong a_this_left f_this_entryMany a_this_entryFamily a_this_entryOf a_this_entryRank c_this_made c_this_buffer c_this_of r_105 hc_105) (cwV 0 htc (rk_gV w_5_58 w_5_60 ws_75 w_1_7 w_5_61) rfl rfl rfl (by decide +kernel) ⟨(Nat.le_of_ble_eq_true rfl), (Nat.le_of_ble_eq_true rfl)⟩) (rk_preV (va_recv hV.1 hR (ci := 9) (q0 := 0) rfl rfl) (rk_preS hP hD hS hR hn hPL hnl hV [1] [(false, 0), (true, 0), (true, 2)] rfl (by decide) rfl (by decide))) rfl rfl hl.1 rfl (lv_room (Nat.le_of_ble_eq_true rfl)) dX10_transform_105 ⟨(Nat.le_of_ble_eq_true rfl), (Nat.le_of_ble_eq_true rfl)⟩) hP hD hS hA hR0 hn [1] [0, 2, 3, 4] rfl rfl (by decide) (by decide) (fun H locs hP hD hS hR => ?_)
    have hP : va_P D vwCl [(a_this_buffer, .inl (cI, 60, .inl c_this_buffer)), (a_this_of, .inl (cI, 4, .inl c_this_of)), (a_this_stackOther, .inl (cI, 64, .inl c_this_stackOther)), (a_this_stackOne, .inl (cI, 64, .inl r_1.2)), (a_this_made, .inl (cI, 60, .inl r_105))] H := hP
    have hD : va_D A [(a_this_buffer, .inl (cI, 60, .inl c_this_buffer)), (a_this_of, .inl (cI, 4, .inl c_this_of)), (a_this_stackOther, .inl (cI, 64, .inl c_this_stackOther)), (a_this_stackOne, .inl (cI, 64, .inl r_1.2)), (a_this_made, .inl (cI, 60, .inl r_105))] := hD
    exact B108 r_105 r_1.2 c_this_stackOther h _ _ (hP.sub [0, 4, 1, 2, 3] rfl) (hD.sub [0, 4, 1, 2, 3] (by decide) rfl) hS _ hl
  · have h := rk_nnif hc1 h
    refine lv_bipush (v := (-2)) hx hb dX10_transform_7 (by decide) ?_
    exact hret ((-2 : Int32), c_this_buffer, c_this_made, c_this_of, r_1.2, c_this_stackOther) _ _ _ _ h dX10_transform_9 (hP.sub [0, 1, 2, 4, 3] rfl) (hD.sub [0, 1, 2, 4, 3] (by decide) rfl) hS
set_option maxHeartbeats 4000000 in
set_option maxRecDepth 100000 in
theorem mtX10_toWord (l : Launch) (D : va_G) (cI cJ cO : ClassId) (PL : va_W) (sz : Nat) (a_this : Nat) (a_this_chosen : Nat) (a_this_factorial : Nat) (a_this_catalan : Nat) (a_this_parted : Nat) (a_this_closed : Nat) (f_this_now : Int32) (a_this_of : Nat) (a_this_buffer : Nat) (a_this_made : Nat) (a_this_stackOne : Nat) (a_this_stackOther : Nat) (a_this_stackLong : Nat) (a_this_left : Nat) (f_this_entryMany : Int32) (a_this_entryFamily : Nat) (a_this_entryOf : Nat) (a_this_entryRank : Nat) (c_this_buffer : Nat → Int32) (c_this_made : Nat → Int32) (c_this_of : Nat → Int32) (c_this_stackOne : Nat → Int32) (c_this_stackOther : Nat → Int32) (r0 : Int32 × Int32 × (Nat → Int32) × (Nat → Int32) × (Nat → Int32) × (Nat → Int32) × (Nat → Int32)) (h : fX10_toWord f_this_now c_this_buffer c_this_made c_this_of c_this_stackOne c_this_stackOther = some r0) : Met l yX10_toWord (rk_w yX10_toWord cX10_toWord 7 (some .int)) rmX10_toWord (va_Pc [.ref a_this] (rk_B D (rk_TY cI cJ cO) [(a_this, .inr (9, [.ref a_this_chosen, .ref a_this_factorial, .ref a_this_catalan, .ref a_this_parted, .ref a_this_closed, .int f_this_now, .ref a_this_of, .ref a_this_buffer, .ref a_this_made, .ref a_this_stackOne, .ref a_this_stackOther, .ref a_this_stackLong, .ref a_this_left, .int f_this_entryMany, .ref a_this_entryFamily, .ref a_this_entryOf, .ref a_this_entryRank])), (a_this_buffer, .inl (cI, 60, .inl c_this_buffer)), (a_this_made, .inl (cI, 60, .inl c_this_made)), (a_this_of, .inl (cI, 4, .inl c_this_of)), (a_this_stackOne, .inl (cI, 64, .inl c_this_stackOne)), (a_this_stackOther, .inl (cI, 64, .inl c_this_stackOther))] [] PL sz)) (rk_Qi r0.1 D [(a_this, .inr (9, [.ref a_this_chosen, .ref a_this_factorial, .ref a_this_catalan, .ref a_this_parted, .ref a_this_closed, .int r0.2.1, .ref a_this_of, .ref a_this_buffer, .ref a_this_made, .ref a_this_stackOne, .ref a_this_stackOther, .ref a_this_stackLong, .ref a_this_left, .int f_this_entryMany, .ref a_this_entryFamily, .ref a_this_entryOf, .ref a_this_entryRank])), (a_this_buffer, .inl (cI, 60, .inl r0.2.2.1)), (a_this_made, .inl (cI, 60, .inl r0.2.2.2.1)), (a_this_of, .inl (cI, 4, .inl r0.2.2.2.2.1)), (a_this_stackOne, .inl (cI, 64, .inl r0.2.2.2.2.2.1)), (a_this_stackOther, .inl (cI, 64, .inl r0.2.2.2.2.2.2))] [(a_this, .inr (9, [.ref a_this_chosen, .ref a_this_factorial, .ref a_this_catalan, .ref a_this_parted, .ref a_this_closed, .int f_this_now, .ref a_this_of, .ref a_this_buffer, .ref a_this_made, .ref a_this_stackOne, .ref a_this_stackOther, .ref a_this_stackLong, .ref a_this_left, .int f_this_entryMany, .ref a_this_entryFamily, .ref a_this_entryOf, .ref a_this_entryRank])), (a_this_buffer, .inl (cI, 60, .inl c_this_buffer)), (a_this_made, .inl (cI, 60, .inl c_this_made)), (a_this_of, .inl (cI, 4, .inl c_this_of)), (a_this_stackOne, .inl (cI, 64, .inl c_this_stackOne)), (a_this_stackOther, .inl (cI, 64, .inl c_this_stackOther))] sz) 0 0 (va_A [(a_this, .inr (9, [.ref a_this_chosen, .ref a_this_factorial, .ref a_this_catalan, .ref a_this_parted, .ref a_this_closed, .int f_this_now, .ref a_this_of, .ref a_this_buffer, .ref a_this_made, .ref a_this_stackOne, .ref a_this_stackOther, .ref a_this_stackLong, .ref a_this_left, .int f_this_entryMany, .ref a_this_entryFamily, .ref a_this_entryOf, .ref a_this_entryRank])), (a_this_buffer, .inl (cI, 60, .inl c_this_buffer)), (a_this_made, .inl (cI, 60, .inl c_this_made)), (a_this_of, .inl (cI, 4, .inl c_this_of)), (a_this_stackOne, .inl (cI, 64, .inl c_this_stackOne)), (a_this_stackOther, .inl (cI, 64, .inl c_this_stackOther))] sz) := by
  refine rk_meti h (fun x : Int32 × Int32 × (Nat → Int32) × (Nat → Int32) × (Nat → Int32) × (Nat → Int32) × (Nat → Int32) => x.1) (fun x => [(a_this, .inr (9, [.ref a_this_chosen, .ref a_this_factorial, .ref a_this_catalan, .ref a_this_parted, .ref a_this_closed, .int x.2.1, .ref a_this_of, .ref a_this_buffer, .ref a_this_made, .ref a_this_stackOne, .ref a_this_stackOther, .ref a_this_stackLong, .ref a_this_left, .int f_this_entryMany, .ref a_this_entryFamily, .ref a_this_entryOf, .ref a_this_entryRank])), (a_this_buffer, .inl (cI, 60, .inl x.2.2.1)), (a_this_made, .inl (cI, 60, .inl x.2.2.2.1)), (a_this_of, .inl (cI, 4, .inl x.2.2.2.2.1)), (a_this_stackOne, .inl (cI, 64, .inl x.2.2.2.2.2.1)), (a_this_stackOther, .inl (cI, 64, .inl x.2.2.2.2.2.2))]) (by decide) (Nat.le_of_ble_eq_true rfl) ?_
  intro p e s m args below meth c A ls Q hret hname hF hP hD hA hV hR0 hn hPL hnl hl h hS
  have hx := hF.1
  have hb := hF.2.1
  have hml := hF.2.2.1
  have hown : s.vm.findClass RX10 = some m.cls := hF.2.2.2.1
  have htc := hF.2.2.2.2
  have hP : va_P D vwCl [(a_this, .inr (9, [.ref a_this_chosen, .ref a_this_factorial, .ref a_this_catalan, .ref a_this_parted, .ref a_this_closed, .int f_this_now, .ref a_this_of, .ref a_this_buffer, .ref a_this_made, .ref a_this_stackOne, .ref a_this_stackOther, .ref a_this_stackLong, .ref a_this_left, .int f_this_entryMany, .ref a_this_entryFamily, .ref a_this_entryOf, .ref a_this_entryRank])), (a_this_buffer, .inl (cI, 60, .inl c_this_buffer)), (a_this_made, .inl (cI, 60, .inl c_this_made)), (a_this_of, .inl (cI, 4, .inl c_this_of)), (a_this_stackOne, .inl (cI, 64, .inl c_this_stackOne)), (a_this_stackOther, .inl (cI, 64, .inl c_this_stackOther))] s.heap := hP
  have hD : va_D A [(a_this, .inr (9, [.ref a_this_chosen, .ref a_this_factorial, .ref a_this_catalan, .ref a_this_parted, .ref a_this_closed, .int f_this_now, .ref a_this_of, .ref a_this_buffer, .ref a_this_made, .ref a_this_stackOne, .ref a_this_stackOther, .ref a_this_stackLong, .ref a_this_left, .int f_this_entryMany, .ref a_this_entryFamily, .ref a_this_entryOf, .ref a_this_entryRank])), (a_this_buffer, .inl (cI, 60, .inl c_this_buffer)), (a_this_made, .inl (cI, 60, .inl c_this_made)), (a_this_of, .inl (cI, 4, .inl c_this_of)), (a_this_stackOne, .inl (cI, 64, .inl c_this_stackOne)), (a_this_stackOther, .inl (cI, 64, .inl c_this_stackOther))] := hD
  have hR0 : va_P D vwCl [] s.heap := hR0
  have hR := hR0
  have hl : lv_has ls 7 [(0, .ref a_this)] := hl
  unfold fX10_toWord at h
  refine lv_aload_n hx hb dX10_toWord_0 rfl (lv_at hl 0 rfl) ?_
  refine va_get (D := D) (ci := 9) (v := .int f_this_now) (C := RX10) (T := TX10) (N := 17) hx hb htc inX10 hown hV.1 hP 0 rfl rfl 5 (by decide) (htc _ w_4_3) (fun _ h9 => h9) rfl dX10_toWord_1 ?_
  refine lv_iconst (v := 3) hx hb dX10_toWord_4 (by decide) ?_
  refine lv_icmp_ne (tgt := 19) hx hb dX10_toWord_5 (by decide) (fun hc1 => ?_) (fun hc1 => ?_)
  · have h := rk_if hc1 h
    refine lv_bipush (v := (-3)) hx hb dX10_toWord_19 (by decide) ?_
    exact hret ((-3 : Int32), f_this_now, c_this_buffer, c_this_made, c_this_of, c_this_stackOne, c_this_stackOther) _ _ _ _ h dX10_toWord_21 hP hD hS
  · have h := rk_nnif hc1 h
    refine lv_aload_n hx hb dX10_toWord_8 rfl (lv_at hl 0 rfl) ?_
    refine va_get (D := D) (ci := 9) (v := .ref a_this_of) (C := RX10) (T := TX10) (N := 17) hx hb htc inX10 hown hV.1 hP 0 rfl rfl 6 (by decide) (htc _ w_4_4) (fun _ h9 => h9) rfl dX10_toWord_9 ?_
    refine lv_iconst (v := 0) hx hb dX10_toWord_12 (by decide) ?_
    refine va_iald hx hb hV.1 hP 3 0 rfl rfl (show vp_in (0 : Int32) 4 from (by decide : ¬ ((0 : Int32) < 0 ∨ 4 ≤ (0 : Int32).toNatClampNeg))) dX10_toWord_13 ?_
    refine W.eq (g2 := F0 m 14 ls [.int (c_this_of 0)]) rfl ?_
    refine lv_bipush (v := 20) hx hb dX10_toWord_14 (by decide) ?_
    refine lv_icmp_le (tgt := 22) hx hb dX10_toWord_16 (by decide) (fun hc2 => ?_) (fun hc2 => ?_)
    · have h := rk_if hc2 h
      refine lv_aload_n hx hb dX10_toWord_22 rfl (lv_at hl 0 rfl) ?_
      obtain ⟨r_23, hc_23, h⟩ := rk_bd h
      refine rk_i (wr := [(a_this, .inr (9, [.ref a_this_chosen, .ref a_this_factorial, .ref a_this_catalan, .ref a_this_parted, .ref a_this_closed, .int f_this_now, .ref a_this_of, .ref a_this_buffer, .ref a_this_made, .ref a_this_stackOne, .ref a_this_stackOther, .ref a_this_stackLong, .ref a_this_left, .int f_this_entryMany, .ref a_this_entryFamily, .ref a_this_entryOf, .ref a_this_entryRank])), (a_this_buffer, .inl (cI, 60, .inl c_this_buffer)), (a_this_made, .inl (cI, 60, .inl c_this_made)), (a_this_of, .inl (cI, 4, .inl c_this_of)), (a_this_stackOther, .inl (cI, 64, .inl c_this_stackOther))]) (va_runV (C := RX10) (As := []) (rest := []) hF (mtX10_isGood l D cI cJ cO PL _ a_this a_this_chosen a_this_factorial a_this_catalan a_this_parted a_this_closed f_this_now a_this_of a_this_buffer a_this_made a_this_stackOne a_this_stackOther a_this_stackLong a_this_left f_this_entryMany a_this_entryFamily a_this_entryOf a_this_entryRank c_this_stackOne c_this_buffer c_this_of r_23 hc_23) (cwV 0 htc (rk_gV w_4_189 w_4_191 ws_54 w_1_7 w_4_192) rfl rfl rfl (by decide +kernel) ⟨(Nat.le_of_ble_eq_true rfl), (Nat.le_of_ble_eq_true rfl)⟩) (rk_preV (va_recv hV.1 hP (ci := 9) (q0 := 0) rfl rfl) (rk_preS hP hD hS rk_nilP hn hPL hnl hV [4] [(true, 0), (true, 1), (true, 3)] rfl (by decide) rfl (by decide))) rfl rfl hl.1 rfl (lv_room (Nat.le_of_ble_eq_true rfl)) dX10_toWord_23 ⟨(Nat.le_of_ble_eq_true rfl), (Nat.le_of_ble_eq_true rfl)⟩) hP hD hS hA hR0 hn [4] [0, 1, 2, 3, 5] rfl rfl (by decide) (by decide) (fun H locs hP hD hS hR => ?_)
      have hP : va_P D vwCl [(a_this, .inr (9, [.ref a_this_chosen, .ref a_this_factorial, .ref a_this_catalan, .ref a_this_parted, .ref a_this_closed, .int f_this_now, .ref a_this_of, .ref a_this_buffer, .ref a_this_made, .ref a_this_stackOne, .ref a_this_stackOther, .ref a_this_stackLong, .ref a_this_left, .int f_this_entryMany, .ref a_this_entryFamily, .ref a_this_entryOf, .ref a_this_entryRank])), (a_this_buffer, .inl (cI, 60, .inl c_this_buffer)), (a_this_made, .inl (cI, 60, .inl c_this_made)), (a_this_of, .inl (cI, 4, .inl c_this_of)), (a_this_stackOther, .inl (cI, 64, .inl c_this_stackOther)), (a_this_stackOne, .inl (cI, 64, .inl r_23.2))] H := hP
      have hD : va_D A [(a_this, .inr (9, [.ref a_this_chosen, .ref a_this_factorial, .ref a_this_catalan, .ref a_this_parted, .ref a_this_closed, .int f_this_now, .ref a_this_of, .ref a_this_buffer, .ref a_this_made, .ref a_this_stackOne, .ref a_this_stackOther, .ref a_this_stackLong, .ref a_this_left, .int f_this_entryMany, .ref a_this_entryFamily, .ref a_this_entryOf, .ref a_this_entryRank])), (a_this_buffer, .inl (cI, 60, .inl c_this_buffer)), (a_this_made, .inl (cI, 60, .inl c_this_made)), (a_this_of, .inl (cI, 4, .inl c_this_of)), (a_this_stackOther, .inl (cI, 64, .inl c_this_stackOther)), (a_this_stackOne, .inl (cI, 64, .inl r_23.2))] := hD
      refine lv_if_ne (tgt := 32) hx hb dX10_toWord_26 (by decide) (fun hc3 => ?_) (fun hc3 => ?_)
      · have h := rk_if hc3 h
        refine lv_aload_n hx hb dX10_toWord_32 rfl (lv_at hl 0 rfl) ?_
        refine va_get (D := D) (ci := 9) (v := .ref a_this_of) (C := RX10) (T := TX10) (N := 17) hx hb htc inX10 hown hV.1 hP 0 rfl rfl 6 (by decide) (htc _ w_4_4) (fun _ h9 => h9) rfl dX10_toWord_33 ?_
        refine lv_iconst (v := 0) hx hb dX10_toWord_36 (by decide) ?_
        refine va_iald hx hb hV.1 hP 3 0 rfl rfl (show vp_in (0 : Int32) 4 from (by decide : ¬ ((0 : Int32) < 0 ∨ 4 ≤ (0 : Int32).toNatClampNeg))) dX10_toWord_37 ?_
        refine W.eq (g2 := F0 m 38 ls [.int (c_this_of 0)]) rfl ?_
        refine lv_istore_n (lv' := [(1, .int (c_this_of 0)), (0, .ref a_this)]) hx hb dX10_toWord_38 rfl hl (by decide) rfl (fun ls hl => ?_)
        refine lv_iconst (v := 0) hx hb dX10_toWord_39 (by decide) ?_
        refine lv_istore_n (lv' := [(2, .int (0 : Int32)), (1, .int (c_this_of 0)), (0, .ref a_this)]) hx hb dX10_toWord_40 rfl hl (by decide) rfl (fun ls hl => ?_)
        refine lv_iconst (v := 1) hx hb dX10_toWord_41 (by decide) ?_
        refine lv_istore_n (lv' := [(3, .int (1 : Int32)), (2, .int (0 : Int32)), (1, .int (c_this_of 0)), (0, .ref a_this)]) hx hb dX10_toWord_42 rfl hl (by decide) rfl (fun ls hl => ?_)
        refine lv_aload_n hx hb dX10_toWord_43 rfl (lv_at hl 3 rfl) ?_
        refine va_get (D := D) (ci := 9) (v := .ref a_this_stackOne) (C := RX10) (T := TX10) (N := 17) hx hb htc inX10 hown hV.1 hP 0 rfl rfl 9 (by decide) (htc _ w_4_7) (fun _ h9 => h9) rfl dX10_toWord_44 ?_
        refine lv_iconst (v := 0) hx hb dX10_toWord_47 (by decide) ?_
        refine lv_iconst (v := 0) hx hb dX10_toWord_48 (by decide) ?_
        refine va_iast hx hb hV.1 hP hD hS 5 0 rfl rfl (show vp_in (0 : Int32) 64 from (by decide : ¬ ((0 : Int32) < 0 ∨ 64 ≤ (0 : Int32).toNatClampNeg))) dX10_toWord_49 (fun H locs hP hD hS => ?_)
        have hP : va_P D vwCl [(a_this, .inr (9, [.ref a_this_chosen, .ref a_this_factorial, .ref a_this_catalan, .ref a_this_parted, .ref a_this_closed, .int f_this_now, .ref a_this_of, .ref a_this_buffer, .ref a_this_made, .ref a_this_stackOne, .ref a_this_stackOther, .ref a_this_stackLong, .ref a_this_left, .int f_this_entryMany, .ref a_this_entryFamily, .ref a_this_entryOf, .ref a_this_entryRank])), (a_this_buffer, .inl (cI, 60, .inl c_this_buffer)), (a_this_made, .inl (cI, 60, .inl c_this_made)), (a_this_of, .inl (cI, 4, .inl c_this_of)), (a_this_stackOther, .inl (cI, 64, .inl c_this_stackOther)), (a_this_stackOne, .inl (cI, 64, .inl (upd r_23.2 0 (0 : Int32))))] H := hP
        have hD : va_D A [(a_this, .inr (9, [.ref a_this_chosen, .ref a_this_factorial, .ref a_this_catalan, .ref a_this_parted, .ref a_this_closed, .int f_this_now, .ref a_this_of, .ref a_this_buffer, .ref a_this_made, .ref a_this_stackOne, .ref a_this_stackOther, .ref a_this_stackLong, .ref a_this_left, .int f_this_entryMany, .ref a_this_entryFamily, .ref a_this_entryOf, .ref a_this_entryRank])), (a_this_buffer, .inl (cI, 60, .inl c_this_buffer)), (a_this_made, .inl (cI, 60, .inl c_this_made)), (a_this_of, .inl (cI, 4, .inl c_this_of)), (a_this_stackOther, .inl (cI, 64, .inl c_this_stackOther)), (a_this_stackOne, .inl (cI, 64, .inl (upd r_23.2 0 (0 : Int32))))] := hD
        refine lv_aload_n hx hb dX10_toWord_50 rfl (lv_at hl 3 rfl) ?_
        refine va_get (D := D) (ci := 9) (v := .ref a_this_stackOther) (C := RX10) (T := TX10) (N := 17) hx hb htc inX10 hown hV.1 hP 0 rfl rfl 10 (by decide) (htc _ w_4_8) (fun _ h9 => h9) rfl dX10_toWord_51 ?_
        refine lv_iconst (v := 0) hx hb dX10_toWord_54 (by decide) ?_
        refine lv_iload_n hx hb dX10_toWord_55 rfl (lv_at hl 2 rfl) ?_
        refine va_iast hx hb hV.1 hP hD hS 4 0 rfl rfl (show vp_in (0 : Int32) 64 from (by decide : ¬ ((0 : Int32) < 0 ∨ 64 ≤ (0 : Int32).toNatClampNeg))) dX10_toWord_56 (fun H locs hP hD hS => ?_)
        have hP : va_P D vwCl [(a_this, .inr (9, [.ref a_this_chosen, .ref a_this_factorial, .ref a_this_catalan, .ref a_this_parted, .ref a_this_closed, .int f_this_now, .ref a_this_of, .ref a_this_buffer, .ref a_this_made, .ref a_this_stackOne, .ref a_this_stackOther, .ref a_this_stackLong, .ref a_this_left, .int f_this_entryMany, .ref a_this_entryFamily, .ref a_this_entryOf, .ref a_this_entryRank])), (a_this_buffer, .inl (cI, 60, .inl c_this_buffer)), (a_this_made, .inl (cI, 60, .inl c_this_made)), (a_this_of, .inl (cI, 4, .inl c_this_of)), (a_this_stackOther, .inl (cI, 64, .inl (upd c_this_stackOther 0 (c_this_of 0)))), (a_this_stackOne, .inl (cI, 64, .inl (upd r_23.2 0 (0 : Int32))))] H := hP
        have hD : va_D A [(a_this, .inr (9, [.ref a_this_chosen, .ref a_this_factorial, .ref a_this_catalan, .ref a_this_parted, .ref a_this_closed, .int f_this_now, .ref a_this_of, .ref a_this_buffer, .ref a_this_made, .ref a_this_stackOne, .ref a_this_stackOther, .ref a_this_stackLong, .ref a_this_left, .int f_this_entryMany, .ref a_this_entryFamily, .ref a_this_entryOf, .ref a_this_entryRank])), (a_this_buffer, .inl (cI, 60, .inl c_this_buffer)), (a_this_made, .inl (cI, 60, .inl c_this_made)), (a_this_of, .inl (cI, 4, .inl c_this_of)), (a_this_stackOther, .inl (cI, 64, .inl (upd c_this_stackOther 0 (c_this_of 0)))), (a_this_stackOne, .inl (cI, 64, .inl (upd r_23.2 0 (0 : Int32))))] := hD
        have L57 : ∀ (n57 : Nat) (b57_l2 : Int32) (b57_l3 : Int32) (b57_c_this_made : Nat → Int32) (b57_c_this_stackOne : Nat → Int32) (b57_c_this_stackOther : Nat → Int32), rk_it5 (fX10_toWord_L57 c_this_buffer c_this_of) n57 b57_l2 b57_l3 b57_c_this_made b57_c_this_stackOne b57_c_this_stackOther = some r0 → ∀ (H : Heap) (locs : List Loc), va_P D vwCl [(a_this, .inr (9, [.ref a_this_chosen, .ref a_this_factorial, .ref a_this_catalan, .ref a_this_parted, .ref a_this_closed, .int f_this_now, .ref a_this_of, .ref a_this_buffer, .ref a_this_made, .ref a_this_stackOne, .ref a_this_stackOther, .ref a_this_stackLong, .ref a_this_left, .int f_this_entryMany, .ref a_this_entryFamily, .ref a_this_entryOf, .ref a_this_entryRank])), (a_this_buffer, .inl (cI, 60, .inl c_this_buffer)), (a_this_made, .inl (cI, 60, .inl b57_c_this_made)), (a_this_of, .inl (cI, 4, .inl c_this_of)), (a_this_stackOther, .inl (cI, 64, .inl b57_c_this_stackOther)), (a_this_stackOne, .inl (cI, 64, .inl b57_c_this_stackOne))] H → va_D A [(a_this, .inr (9, [.ref a_this_chosen, .ref a_this_factorial, .ref a_this_catalan, .ref a_this_parted, .ref a_this_closed, .int f_this_now, .ref a_this_of, .ref a_this_buffer, .ref a_this_made, .ref a_this_stackOne, .ref a_this_stackOther, .ref a_this_stackLong, .ref a_this_left, .int f_this_entryMany, .ref a_this_entryFamily, .ref a_this_entryOf, .ref a_this_entryRank])), (a_this_buffer, .inl (cI, 60, .inl c_this_buffer)), (a_this_made, .inl (cI, 60, .inl b57_c_this_made)), (a_this_of, .inl (cI, 4, .inl c_this_of)), (a_this_stackOther, .inl (cI, 64, .inl b57_c_this_stackOther)), (a_this_stackOne, .inl (cI, 64, .inl b57_c_this_stackOne))] → va_S A s.heap H locs → ∀ (ls : Array Slot), lv_has ls 7 [(0, .ref a_this), (1, .int (c_this_of 0)), (2, .int b57_l2), (3, .int b57_l3)] → W p l e rmX10_toWord s m args below meth c H locs 0 0 Q (F0 m 57 ls []) := by
          intro n57
          induction n57 with
          | zero => intro b57_l2 b57_l3 b57_c_this_made b57_c_this_stackOne b57_c_this_stackOther h; exact rk_no h
          | succ n57 ih57 =>
            intro b57_l2 b57_l3 b57_c_this_made b57_c_this_stackOne b57_c_this_stackOther h H locs hP hD hS ls hl
            have h : fX10_toWord_L57 c_this_buffer c_this_of (rk_it5 (fX10_toWord_L57 c_this_buffer c_this_of) n57) b57_l2 b57_l3 b57_c_this_made b57_c_this_stackOne b57_c_this_stackOther = some r0 := h
            unfold fX10_toWord_L57 at h
            refine lv_iload_n hx hb dX10_toWord_57 rfl (lv_at hl 3 rfl) ?_
            refine lv_if_le (tgt := 191) hx hb dX10_toWord_58 (by decide) (fun hc4 => ?_) (fun hc4 => ?_)
            · have h := rk_if hc4 h
              refine lv_aload_n hx hb dX10_toWord_191 rfl (lv_at hl 0 rfl) ?_
              refine lv_iconst (v := 2) hx hb dX10_toWord_192 (by decide) ?_
              refine lv_iload_n hx hb dX10_toWord_193 rfl (lv_at hl 1 rfl) ?_
              refine lv_iconst (v := 1) hx hb dX10_toWord_194 (by decide) ?_
              refine lv_iconst (v := 0) hx hb dX10_toWord_195 (by decide) ?_
              refine lv_iconst (v := 0) hx hb dX10_toWord_196 (by decide) ?_
              obtain ⟨r_197, hc_197, h⟩ := rk_bd h
              refine rk_v (wr := [(a_this_buffer, .inl (cI, 60, .inl c_this_buffer)), (a_this_made, .inl (cI, 60, .inl b57_c_this_made)), (a_this_stackOther, .inl (cI, 64, .inl b57_c_this_stackOther)), (a_this_stackOne, .inl (cI, 64, .inl b57_c_this_stackOne))]) (va_runV (C := RX10) (As := [.int (2 : Int32), .int (c_this_of 0), .int (1 : Int32), .int (0 : Int32), .int (0 : Int32)]) (rest := []) hF (mtX10_turnsTo l D cI cJ cO PL _ a_this a_this_chosen a_this_factorial a_this_catalan a_this_parted a_this_closed f_this_now a_this_of a_this_buffer a_this_made a_this_stackOne a_this_stackOther a_this_stackLong a_this_left f_this_entryMany a_this_entryFamily a_this_entryOf a_this_entryRank c_this_of (2 : Int32) (c_this_of 0) (1 : Int32) (0 : Int32) (0 : Int32) r_197 hc_197) (cwV 5 htc (rk_gV w_4_63 w_4_65 ws_36 w_1_7 w_4_66) rfl rfl rfl (by decide +kernel) ⟨(Nat.le_of_ble_eq_true rfl), (Nat.le_of_ble_eq_true rfl)⟩) (rk_preV (va_recv hV.1 hP (ci := 9) (q0 := 0) rfl rfl) (rk_preS hP hD hS rk_nilP hn hPL hnl hV [0, 3] [] rfl (by decide) rfl (by decide))) rfl rfl hl.1 rfl (lv_room (Nat.le_of_ble_eq_true rfl)) dX10_toWord_197 ⟨(Nat.le_of_ble_eq_true rfl), (Nat.le_of_ble_eq_true rfl)⟩) hP hD hS hA hR0 hn [0, 3] [1, 2, 4, 5] rfl rfl (by decide) (by decide) (fun H locs hP hD hS hR => ?_)
              have hP : va_P D vwCl [(a_this_buffer, .inl (cI, 60, .inl c_this_buffer)), (a_this_made, .inl (cI, 60, .inl b57_c_this_made)), (a_this_stackOther, .inl (cI, 64, .inl b57_c_this_stackOther)), (a_this_stackOne, .inl (cI, 64, .inl b57_c_this_stackOne)), (a_this, .inr (9, [.ref a_this_chosen, .ref a_this_factorial, .ref a_this_catalan, .ref a_this_parted, .ref a_this_closed, .int r_197.1, .ref a_this_of, .ref a_this_buffer, .ref a_this_made, .ref a_this_stackOne, .ref a_this_stackOther, .ref a_this_stackLong, .ref a_this_left, .int f_this_entryMany, .ref a_this_entryFamily, .ref a_this_entryOf, .ref a_this_entryRank])), (a_this_of, .inl (cI, 4, .inl r_197.2))] H := hP
              have hD : va_D A [(a_this_buffer, .inl (cI, 60, .inl c_this_buffer)), (a_this_made, .inl (cI, 60, .inl b57_c_this_made)), (a_this_stackOther, .inl (cI, 64, .inl b57_c_this_stackOther)), (a_this_stackOne, .inl (cI, 64, .inl b57_c_this_stackOne)), (a_this, .inr (9, [.ref a_this_chosen, .ref a_this_factorial, .ref a_this_catalan, .ref a_this_parted, .ref a_this_closed, .int r_197.1, .ref a_this_of, .ref a_this_buffer, .ref a_this_made, .ref a_this_stackOne, .ref a_this_stackOther, .ref a_this_stackLong, .ref a_this_left, .int f_this_entryMany, .ref a_this_entryFamily, .ref a_this_entryOf, .ref a_this_entryRank])), (a_this_of, .inl (cI, 4, .inl r_197.2))] := hD
              refine lv_aload_n hx hb dX10_toWord_200 rfl (lv_at hl 0 rfl) ?_
              obtain ⟨r_201, hc_201, h⟩ := rk_bd h
              refine rk_i (wr := [(a_this_made, .inl (cI, 60, .inl b57_c_this_made)), (a_this_stackOther, .inl (cI, 64, .inl b57_c_this_stackOther)), (a_this_stackOne, .inl (cI, 64, .inl b57_c_this_stackOne)), (a_this, .inr (9, [.ref a_this_chosen, .ref a_this_factorial, .ref a_this_catalan, .ref a_this_parted, .ref a_this_closed, .int r_197.1, .ref a_this_of, .ref a_this_buffer, .ref a_this_made, .ref a_this_stackOne, .ref a_this_stackOther, .ref a_this_stackLong, .ref a_this_left, .int f_this_entryMany, .ref a_this_entryFamily, .ref a_this_entryOf, .ref a_this_entryRank])), (a_this_of, .inl (cI, 4, .inl r_197.2))]) (va_runV (C := RX10) (As := []) (rest := []) hF (mtX10_stores l D cI cJ cO PL _ a_this a_this_chosen a_this_factorial a_this_catalan a_this_parted a_this_closed r_197.1 a_this_of a_this_buffer a_this_made a_this_stackOne a_this_stackOther a_this_stackLong a_this_left f_this_entryMany a_this_entryFamily a_this_entryOf a_this_entryRank c_this_buffer b57_c_this_made r_197.2 r_201 hc_201) (cwV 0 htc (rk_gV w_4_123 w_4_125 ws_51 w_1_7 w_4_126) rfl rfl rfl (by decide +kernel) ⟨(Nat.le_of_ble_eq_true rfl), (Nat.le_of_ble_eq_true rfl)⟩) (rk_preV (va_recv hV.1 hP (ci := 9) (q0 := 4) rfl rfl) (rk_preS hP hD hS rk_nilP hn hPL hnl hV [0] [(true, 4), (true, 1), (true, 5)] rfl (by decide) rfl (by decide))) rfl rfl hl.1 rfl (lv_room (Nat.le_of_ble_eq_true rfl)) dX10_toWord_201 ⟨(Nat.le_of_ble_eq_true rfl), (Nat.le_of_ble_eq_true rfl)⟩) hP hD hS hA hR0 hn [0] [1, 2, 3, 4, 5] rfl rfl (by decide) (by decide) (fun H locs hP hD hS hR => ?_)
              have hP : va_P D vwCl [(a_this_made, .inl (cI, 60, .inl b57_c_this_made)), (a_this_stackOther, .inl (cI, 64, .inl b57_c_this_stackOther)), (a_this_stackOne, .inl (cI, 64, .inl b57_c_this_stackOne)), (a_this, .inr (9, [.ref a_this_chosen, .ref a_this_factorial, .ref a_this_catalan, .ref a_this_parted, .ref a_this_closed, .int r_197.1, .ref a_this_of, .ref a_this_buffer, .ref a_this_made, .ref a_this_stackOne, .ref a_this_stackOther, .ref a_this_stackLong, .ref a_this_left, .int f_this_entryMany, .ref a_this_entryFamily, .ref a_this_entryOf, .ref a_this_entryRank])), (a_this_of, .inl (cI, 4, .inl r_197.2)), (a_this_buffer, .inl (cI, 60, .inl r_201.2))] H := hP
              have hD : va_D A [(a_this_made, .inl (cI, 60, .inl b57_c_this_made)), (a_this_stackOther, .inl (cI, 64, .inl b57_c_this_stackOther)), (a_this_stackOne, .inl (cI, 64, .inl b57_c_this_stackOne)), (a_this, .inr (9, [.ref a_this_chosen, .ref a_this_factorial, .ref a_this_catalan, .ref a_this_parted, .ref a_this_closed, .int r_197.1, .ref a_this_of, .ref a_this_buffer, .ref a_this_made, .ref a_this_stackOne, .ref a_this_stackOther, .ref a_this_stackLong, .ref a_this_left, .int f_this_entryMany, .ref a_this_entryFamily, .ref a_this_entryOf, .ref a_this_entryRank])), (a_this_of, .inl (cI, 4, .inl r_197.2)), (a_this_buffer, .inl (cI, 60, .inl r_201.2))] := hD
              refine lv_pop hx hb dX10_toWord_204 rfl ?_
              refine lv_iload_n hx hb dX10_toWord_205 rfl (lv_at hl 1 rfl) ?_
              exact hret ((c_this_of 0), r_197.1, r_201.2, b57_c_this_made, r_197.2, b57_c_this_stackOne, b57_c_this_stackOther) _ _ _ _ h dX10_toWord_206 (hP.sub [3, 5, 0, 4, 2, 1] rfl) (hD.sub [3, 5, 0, 4, 2, 1] (by decide) rfl) hS
            · have h := rk_nif hc4 h
              refine lv_iinc (v := (b57_l3 + (-1))) (lv' := [(3, .int (b57_l3 + (-1))), (0, .ref a_this), (1, .int (c_this_of 0)), (2, .int b57_l2)]) hx hb dX10_toWord_61 hl (k := 3) rfl rfl (by decide) rfl (fun ls hl => ?_)
              refine lv_aload_n hx hb dX10_toWord_64 rfl (lv_at hl 1 rfl) ?_
              refine va_get (D := D) (ci := 9) (v := .ref a_this_stackOne) (C := RX10) (T := TX10) (N := 17) hx hb htc inX10 hown hV.1 hP 0 rfl rfl 9 (by decide) (htc _ w_4_7) (fun _ h9 => h9) rfl dX10_toWord_65 ?_
              refine lv_iload_n hx hb dX10_toWord_68 rfl (lv_at hl 0 rfl) ?_
              obtain ⟨hg5, h⟩ := rk_gd h
              refine va_iald hx hb hV.1 hP 5 0 rfl rfl hg5 dX10_toWord_69 ?_
              refine lv_istore (lv' := [(4, .int (b57_c_this_stackOne (b57_l3 + (-1)).toNatClampNeg)), (3, .int (b57_l3 + (-1))), (0, .ref a_this), (1, .int (c_this_of 0)), (2, .int b57_l2)]) hx hb dX10_toWord_70 hl (by decide) rfl (fun ls hl => ?_)
              refine lv_aload_n hx hb dX10_toWord_72 rfl (lv_at hl 2 rfl) ?_
              refine va_get (D := D) (ci := 9) (v := .ref a_this_stackOther) (C := RX10) (T := TX10) (N := 17) hx hb htc inX10 hown hV.1 hP 0 rfl rfl 10 (by decide) (htc _ w_4_8) (fun _ h9 => h9) rfl dX10_toWord_73 ?_
              refine lv_iload_n hx hb dX10_toWord_76 rfl (lv_at hl 1 rfl) ?_
              refine va_iald hx hb hV.1 hP 4 0 rfl rfl hg5 dX10_toWord_77 ?_
              refine lv_istore (lv' := [(5, .int (b57_c_this_stackOther (b57_l3 + (-1)).toNatClampNeg)), (4, .int (b57_c_this_stackOne (b57_l3 + (-1)).toNatClampNeg)), (3, .int (b57_l3 + (-1))), (0, .ref a_this), (1, .int (c_this_of 0)), (2, .int b57_l2)]) hx hb dX10_toWord_78 hl (by decide) rfl (fun ls hl => ?_)
              refine lv_aload_n hx hb dX10_toWord_80 rfl (lv_at hl 3 rfl) ?_
              refine va_get (D := D) (ci := 9) (v := .ref a_this_made) (C := RX10) (T := TX10) (N := 17) hx hb htc inX10 hown hV.1 hP 0 rfl rfl 8 (by decide) (htc _ w_4_6) (fun _ h9 => h9) rfl dX10_toWord_81 ?_
              refine lv_iload_n hx hb dX10_toWord_84 rfl (lv_at hl 5 rfl) ?_
              refine lv_iload hx hb dX10_toWord_85 (lv_at hl 0 rfl) ?_
              have B95 : ∀ (b95_t2 : Int32), fX10_toWord_B95 c_this_buffer b57_l2 b57_l3 b57_c_this_made b57_c_this_stackOne b57_c_this_stackOther (rk_it5 (fX10_toWord_L57 c_this_buffer c_this_of) n57) b95_t2 = some r0 → ∀ (H : Heap) (locs : List Loc), va_P D vwCl [(a_this, .inr (9, [.ref a_this_chosen, .ref a_this_factorial, .ref a_this_catalan, .ref a_this_parted, .ref a_this_closed, .int f_this_now, .ref a_this_of, .ref a_this_buffer, .ref a_this_made, .ref a_this_stackOne, .ref a_this_stackOther, .ref a_this_stackLong, .ref a_this_left, .int f_this_entryMany, .ref a_this_entryFamily, .ref a_this_entryOf, .ref a_this_entryRank])), (a_this_buffer, .inl (cI, 60, .inl c_this_buffer)), (a_this_made, .inl (cI, 60, .inl b57_c_this_made)), (a_this_of, .inl (cI, 4, .inl c_this_of)), (a_this_stackOther, .inl (cI, 64, .inl b57_c_this_stackOther)), (a_this_stackOne, .inl (cI, 64, .inl b57_c_this_stackOne))] H → va_D A [(a_this, .inr (9, [.ref a_this_chosen, .ref a_this_factorial, .ref a_this_catalan, .ref a_this_parted, .ref a_this_closed, .int f_this_now, .ref a_this_of, .ref a_this_buffer, .ref a_this_made, .ref a_this_stackOne, .ref a_this_stackOther, .ref a_this_stackLong, .ref a_this_left, .int f_this_entryMany, .ref a_this_entryFamily, .ref a_this_entryOf, .ref a_this_entryRank])), (a_this_buffer, .inl (cI, 60, .inl c_this_buffer)), (a_this_made, .inl (cI, 60, .inl b57_c_this_made)), (a_this_of, .inl (cI, 4, .inl c_this_of)), (a_this_stackOther, .inl (cI, 64, .inl b57_c_this_stackOther)), (a_this_stackOne, .inl (cI, 64, .inl b57_c_this_stackOne))] → va_S A s.heap H locs → ∀ (ls : Array Slot), lv_has ls 7 [(0, .ref a_this), (1, .int (c_this_of 0)), (2, .int b57_l2), (3, .int (b57_l3 + (-1))), (4, .int (b57_c_this_stackOne (b57_l3 + (-1)).toNatClampNeg)), (5, .int (b57_c_this_stackOther (b57_l3 + (-1)).toNatClampNeg))] → W p l e rmX10_toWord s m args below meth c H locs 0 0 Q (F0 m 95 ls [.int b95_t2, .int b57_l2, .ref a_this_made]) := by
                intro b95_t2 h H locs hP hD hS ls hl
                unfold fX10_toWord_B95 at h
                obtain ⟨hg6, h⟩ := rk_gd h
                refine va_iast hx hb hV.1 hP hD hS 2 0 rfl rfl hg6 dX10_toWord_95 (fun H locs hP hD hS => ?_)
                have hP : va_P D vwCl [(a_this, .inr (9, [.ref a_this_chosen, .ref a_this_factorial, .ref a_this_catalan, .ref a_this_parted, .ref a_this_closed, .int f_this_now, .ref a_this_of, .ref a_this_buffer, .ref a_this_made, .ref a_this_stackOne, .ref a_this_stackOther, .ref a_this_stackLong, .ref a_this_left, .int f_this_entryMany, .ref a_this_entryFamily, .ref a_this_entryOf, .ref a_this_entryRank])), (a_this_buffer, .inl (cI, 60, .inl c_this_buffer)), (a_this_made, .inl (cI, 60, .inl (upd b57_c_this_made b57_l2.toNatClampNeg b95_t2))), (a_this_of, .inl (cI, 4, .inl c_this_of)), (a_this_stackOther, .inl (cI, 64, .inl b57_c_this_stackOther)), (a_this_stackOne, .inl (cI, 64, .inl b57_c_this_stackOne))] H := hP
                have hD : va_D A [(a_this, .inr (9, [.ref a_this_chosen, .ref a_this_factorial, .ref a_this_catalan, .ref a_this_parted, .ref a_this_closed, .int f_this_now, .ref a_this_of, .ref a_this_buffer, .ref a_this_made, .ref a_this_stackOne, .ref a_this_stackOther, .ref a_this_stackLong, .ref a_this_left, .int f_this_entryMany, .ref a_this_entryFamily, .ref a_this_entryOf, .ref a_this_entryRank])), (a_this_buffer, .inl (cI, 60, .inl c_this_buffer)), (a_this_made, .inl (cI, 60, .inl (upd b57_c_this_made b57_l2.toNatClampNeg b95_t2))), (a_this_of, .inl (cI, 4, .inl c_this_of)), (a_this_stackOther, .inl (cI, 64, .inl b57_c_this_stackOther)), (a_this_stackOne, .inl (cI, 64, .inl b57_c_this_stackOne))] := hD
                refine lv_iinc (v := (b57_l2 + 1)) (lv' := [(2, .int (b57_l2 + 1)), (0, .ref a_this), (1, .int (c_this_of 0)), (3, .int (b57_l3 + (-1))), (4, .int (b57_c_this_stackOne (b57_l3 + (-1)).toNatClampNeg)), (5, .int (b57_c_this_stackOther (b57_l3 + (-1)).toNatClampNeg))]) hx hb dX10_toWord_96 hl (k := 2) rfl rfl (by decide) rfl (fun ls hl => ?_)
                refine lv_iload hx hb dX10_toWord_99 (lv_at hl 5 rfl) ?_
                have B188 : ∀ (b188_l3 : Int32) (b188_c_this_stackOne : Nat → Int32) (b188_c_this_stackOther : Nat → Int32), fX10_toWord_B188 b57_l2 b57_c_this_made (rk_it5 (fX10_toWord_L57 c_this_buffer c_this_of) n57) b95_t2 b188_l3 b188_c_this_stackOne b188_c_this_stackOther = some r0 → ∀ (H : Heap) (locs : List Loc), va_P D vwCl [(a_this, .inr (9, [.ref a_this_chosen, .ref a_this_factorial, .ref a_this_catalan, .ref a_this_parted, .ref a_this_closed, .int f_this_now, .ref a_this_of, .ref a_this_buffer, .ref a_this_made, .ref a_this_stackOne, .ref a_this_stackOther, .ref a_this_stackLong, .ref a_this_left, .int f_this_entryMany, .ref a_this_entryFamily, .ref a_this_entryOf, .ref a_this_entryRank])), (a_this_buffer, .inl (cI, 60, .inl c_this_buffer)), (a_this_made, .inl (cI, 60, .inl (upd b57_c_this_made b57_l2.toNatClampNeg b95_t2))), (a_this_of, .inl (cI, 4, .inl c_this_of)), (a_this_stackOther, .inl (cI, 64, .inl b188_c_this_stackOther)), (a_this_stackOne, .inl (cI, 64, .inl b188_c_this_stackOne))] H → va_D A [(a_this, .inr (9, [.ref a_this_chosen, .ref a_this_factorial, .ref a_this_catalan, .ref a_this_parted, .ref a_this_closed, .int f_this_now, .ref a_this_of, .ref a_this_buffer, .ref a_this_made, .ref a_this_stackOne, .ref a_this_stackOther, .ref a_this_stackLong, .ref a_this_left, .int f_this_entryMany, .ref a_this_entryFamily, .ref a_this_entryOf, .ref a_this_entryRank])), (a_this_buffer, .inl (cI, 60, .inl c_this_buffer)), (a_this_made, .inl (cI, 60, .inl (upd b57_c_this_made b57_l2.toNatClampNeg b95_t2))), (a_this_of, .inl (cI, 4, .inl c_this_of)), (a_this_stackOther, .inl (cI, 64, .inl b188_c_this_stackOther)), (a_this_stackOne, .inl (cI, 64, .inl b188_c_this_stackOne))] → va_S A s.heap H locs → ∀ (ls : Array Slot), lv_has ls 7 [(0, .ref a_this), (1, .int (c_this_of 0)), (2, .int (b57_l2 + 1)), (3, .int b188_l3)] → W p l e rmX10_toWord s m args below meth c H locs 0 0 Q (F0 m 188 ls []) := by
                  intro b188_l3 b188_c_this_stackOne b188_c_this_stackOther h H locs hP hD hS ls hl
                  unfold fX10_toWord_B188 at h
                  refine lv_goto (tgt := 57) hx hb dX10_toWord_188 (by decide) ?_
                  exact ih57 (b57_l2 + 1) b188_l3 (upd b57_c_this_made b57_l2.toNatClampNeg b95_t2) b188_c_this_stackOne b188_c_this_stackOther h _ _ hP hD hS _ hl
                refine lv_if_le (tgt := 188) hx hb dX10_toWord_101 (by decide) (fun hc7 => ?_) (fun hc7 => ?_)
                · have h := rk_if hc7 h
                  exact B188 (b57_l3 + (-1)) b57_c_this_stackOne b57_c_this_stackOther h _ _ hP hD hS _ (lv_sub hl [1, 2, 0, 3] rfl)
                · have h := rk_nif hc7 h
                  refine lv_aload_n hx hb dX10_toWord_104 rfl (lv_at hl 1 rfl) ?_
                  refine va_get (D := D) (ci := 9) (v := .ref a_this_buffer) (C := RX10) (T := TX10) (N := 17) hx hb htc inX10 hown hV.1 hP 0 rfl rfl 7 (by decide) (htc _ w_4_5) (fun _ h9 => h9) rfl dX10_toWord_105 ?_
                  refine lv_iload hx hb dX10_toWord_108 (lv_at hl 4 rfl) ?_
                  obtain ⟨hg8, h⟩ := rk_gd h
                  refine va_iald hx hb hV.1 hP 1 0 rfl rfl hg8 dX10_toWord_110 ?_
                  refine lv_istore (lv' := [(6, .int (c_this_buffer (b57_c_this_stackOne (b57_l3 + (-1)).toNatClampNeg).toNatClampNeg)), (2, .int (b57_l2 + 1)), (0, .ref a_this), (1, .int (c_this_of 0)), (3, .int (b57_l3 + (-1))), (4, .int (b57_c_this_stackOne (b57_l3 + (-1)).toNatClampNeg)), (5, .int (b57_c_this_stackOther (b57_l3 + (-1)).toNatClampNeg))]) hx hb dX10_toWord_111 hl (by decide) rfl (fun ls hl => ?_)
                  refine lv_iload hx hb dX10_toWord_113 (lv_at hl 6 rfl) ?_
                  refine lv_iconst (v := 1) hx hb dX10_toWord_115 (by decide) ?_
                  refine lv_isub hx hb dX10_toWord_116 ?_
                  refine lv_iload hx hb dX10_toWord_117 (lv_at hl 0 rfl) ?_
                  refine lv_isub hx hb dX10_toWord_119 ?_
                  have B152 : ∀ (b152_l3 : Int32) (b152_c_this_stackOne : Nat → Int32) (b152_c_this_stackOther : Nat → Int32), fX10_toWord_B152 c_this_buffer b57_l2 b57_l3 b57_c_this_made b57_c_this_stackOne (rk_it5 (fX10_toWord_L57 c_this_buffer c_this_of) n57) b95_t2 b152_l3 b152_c_this_stackOne b152_c_this_stackOther = some r0 → ∀ (H : Heap) (locs : List Loc), va_P D vwCl [(a_this, .inr (9, [.ref a_this_chosen, .ref a_this_factorial, .ref a_this_catalan, .ref a_this_parted, .ref a_this_closed, .int f_this_now, .ref a_this_of, .ref a_this_buffer, .ref a_this_made, .ref a_this_stackOne, .ref a_this_stackOther, .ref a_this_stackLong, .ref a_this_left, .int f_this_entryMany, .ref a_this_entryFamily, .ref a_this_entryOf, .ref a_this_entryRank])), (a_this_buffer, .inl (cI, 60, .inl c_this_buffer)), (a_this_made, .inl (cI, 60, .inl (upd b57_c_this_made b57_l2.toNatClampNeg b95_t2))), (a_this_of, .inl (cI, 4, .inl c_this_of)), (a_this_stackOther, .inl (cI, 64, .inl b152_c_this_stackOther)), (a_this_stackOne, .inl (cI, 64, .inl b152_c_this_stackOne))] H → va_D A [(a_this, .inr (9, [.ref a_this_chosen, .ref a_this_factorial, .ref a_this_catalan, .ref a_this_parted, .ref a_this_closed, .int f_this_now, .ref a_this_of, .ref a_this_buffer, .ref a_this_made, .ref a_this_stackOne, .ref a_this_stackOther, .ref a_this_stackLong, .ref a_this_left, .int f_this_entryMany, .ref a_this_entryFamily, .ref a_this_entryOf, .ref a_this_entryRank])), (a_this_buffer, .inl (cI, 60, .inl c_this_buffer)), (a_this_made, .inl (cI, 60, .inl (upd b57_c_this_made b57_l2.toNatClampNeg b95_t2))), (a_this_of, .inl (cI, 4, .inl c_this_of)), (a_this_stackOther, .inl (cI, 64, .inl b152_c_this_stackOther)), (a_this_stackOne, .inl (cI, 64, .inl b152_c_this_stackOne))] → va_S A s.heap H locs → ∀ (ls : Array Slot), lv_has ls 7 [(0, .ref a_this), (1, .int (c_this_of 0)), (2, .int (b57_l2 + 1)), (3, .int b152_l3), (4, .int (b57_c_this_stackOne (b57_l3 + (-1)).toNatClampNeg)), (6, .int (c_this_buffer (b57_c_this_stackOne (b57_l3 + (-1)).toNatClampNeg).toNatClampNeg))] → W p l e rmX10_toWord s m args below meth c H locs 0 0 Q (F0 m 152 ls []) := by
                    intro b152_l3 b152_c_this_stackOne b152_c_this_stackOther h H locs hP hD hS ls hl
                    unfold fX10_toWord_B152 at h
                    refine lv_aload_n hx hb dX10_toWord_152 rfl (lv_at hl 0 rfl) ?_
                    refine va_get (D := D) (ci := 9) (v := .ref a_this_stackOther) (C := RX10) (T := TX10) (N := 17) hx hb htc inX10 hown hV.1 hP 0 rfl rfl 10 (by decide) (htc _ w_4_8) (fun _ h9 => h9) rfl dX10_toWord_153 ?_
                    refine lv_iload_n hx hb dX10_toWord_156 rfl (lv_at hl 3 rfl) ?_
                    refine lv_iconst (v := 0) hx hb dX10_toWord_157 (by decide) ?_
                    obtain ⟨hg9, h⟩ := rk_gd h
                    refine va_iast hx hb hV.1 hP hD hS 4 0 rfl rfl hg9 dX10_toWord_158 (fun H locs hP hD hS => ?_)
                    have hP : va_P D vwCl [(a_this, .inr (9, [.ref a_this_chosen, .ref a_this_factorial, .ref a_this_catalan, .ref a_this_parted, .ref a_this_closed, .int f_this_now, .ref a_this_of, .ref a_this_buffer, .ref a_this_made, .ref a_this_stackOne, .ref a_this_stackOther, .ref a_this_stackLong, .ref a_this_left, .int f_this_entryMany, .ref a_this_entryFamily, .ref a_this_entryOf, .ref a_this_entryRank])), (a_this_buffer, .inl (cI, 60, .inl c_this_buffer)), (a_this_made, .inl (cI, 60, .inl (upd b57_c_this_made b57_l2.toNatClampNeg b95_t2))), (a_this_of, .inl (cI, 4, .inl c_this_of)), (a_this_stackOther, .inl (cI, 64, .inl (upd b152_c_this_stackOther b152_l3.toNatClampNeg (0 : Int32)))), (a_this_stackOne, .inl (cI, 64, .inl b152_c_this_stackOne))] H := hP
                    have hD : va_D A [(a_this, .inr (9, [.ref a_this_chosen, .ref a_this_factorial, .ref a_this_catalan, .ref a_this_parted, .ref a_this_closed, .int f_this_now, .ref a_this_of, .ref a_this_buffer, .ref a_this_made, .ref a_this_stackOne, .ref a_this_stackOther, .ref a_this_stackLong, .ref a_this_left, .int f_this_entryMany, .ref a_this_entryFamily, .ref a_this_entryOf, .ref a_this_entryRank])), (a_this_buffer, .inl (cI, 60, .inl c_this_buffer)), (a_this_made, .inl (cI, 60, .inl (upd b57_c_this_made b57_l2.toNatClampNeg b95_t2))), (a_this_of, .inl (cI, 4, .inl c_this_of)), (a_this_stackOther, .inl (cI, 64, .inl (upd b152_c_this_stackOther b152_l3.toNatClampNeg (0 : Int32)))), (a_this_stackOne, .inl (cI, 64, .inl b152_c_this_stackOne))] := hD
                    refine lv_iinc (v := (b152_l3 + 1)) (lv' := [(3, .int (b152_l3 + 1)), (0, .ref a_this), (1, .int (c_this_of 0)), (2, .int (b57_l2 + 1)), (4, .int (b57_c_this_stackOne (b57_l3 + (-1)).toNatClampNeg)), (6, .int (c_this_buffer (b57_c_this_stackOne (b57_l3 + (-1)).toNatClampNeg).toNatClampNeg))]) hx hb dX10_toWord_159 hl (k := 3) rfl rfl (by decide) rfl (fun ls hl => ?_)
                    refine lv_iload hx hb dX10_toWord_162 (lv_at hl 5 rfl) ?_
                    refine lv_if_le (tgt := 188) hx hb dX10_toWord_164 (by decide) (fun hc10 => ?_) (fun hc10 => ?_)
                    · have h := rk_if hc10 h
                      exact B188 (b152_l3 + 1) b152_c_this_stackOne (upd b152_c_this_stackOther b152_l3.toNatClampNeg (0 : Int32)) h _ _ hP hD hS _ (lv_sub hl [1, 2, 3, 0] rfl)
                    · have h := rk_nif hc10 h
                      refine lv_aload_n hx hb dX10_toWord_167 rfl (lv_at hl 1 rfl) ?_
                      refine va_get (D := D) (ci := 9) (v := .ref a_this_stackOne) (C := RX10) (T := TX10) (N := 17) hx hb htc inX10 hown hV.1 hP 0 rfl rfl 9 (by decide) (htc _ w_4_7) (fun _ h9 => h9) rfl dX10_toWord_168 ?_
                      refine lv_iload_n hx hb dX10_toWord_171 rfl (lv_at hl 0 rfl) ?_
                      refine lv_iload hx hb dX10_toWord_172 (lv_at hl 4 rfl) ?_
                      refine lv_iconst (v := 1) hx hb dX10_toWord_174 (by decide) ?_
                      refine lv_iadd hx hb dX10_toWord_175 ?_
                      obtain ⟨hg11, h⟩ := rk_gd h
                      refine va_iast hx hb hV.1 hP hD hS 5 0 rfl rfl hg11 dX10_toWord_176 (fun H locs hP hD hS => ?_)
                      have hP : va_P D vwCl [(a_this, .inr (9, [.ref a_this_chosen, .ref a_this_factorial, .ref a_this_catalan, .ref a_this_parted, .ref a_this_closed, .int f_this_now, .ref a_this_of, .ref a_this_buffer, .ref a_this_made, .ref a_this_stackOne, .ref a_this_stackOther, .ref a_this_stackLong, .ref a_this_left, .int f_this_entryMany, .ref a_this_entryFamily, .ref a_this_entryOf, .ref a_this_entryRank])), (a_this_buffer, .inl (cI, 60, .inl c_this_buffer)), (a_this_made, .inl (cI, 60, .inl (upd b57_c_this_made b57_l2.toNatClampNeg b95_t2))), (a_this_of, .inl (cI, 4, .inl c_this_of)), (a_this_stackOther, .inl (cI, 64, .inl (upd b152_c_this_stackOther b152_l3.toNatClampNeg (0 : Int32)))), (a_this_stackOne, .inl (cI, 64, .inl (upd b152_c_this_stackOne (b152_l3 + 1).toNatClampNeg ((b57_c_this_stackOne (b57_l3 + (-1)).toNatClampNeg) + (1 : Int32)))))] H := hP
                      have hD : va_D A [(a_this, .inr (9, [.ref a_this_chosen, .ref a_this_factorial, .ref a_this_catalan, .ref a_this_parted, .ref a_this_closed, .int f_this_now, .ref a_this_of, .ref a_this_buffer, .ref a_this_made, .ref a_this_stackOne, .ref a_this_stackOther, .ref a_this_stackLong, .ref a_this_left, .int f_this_entryMany, .ref a_this_entryFamily, .ref a_this_entryOf, .ref a_this_entryRank])), (a_this_buffer, .inl (cI, 60, .inl c_this_buffer)), (a_this_made, .inl (cI, 60, .inl (upd b57_c_this_made b57_l2.toNatClampNeg b95_t2))), (a_this_of, .inl (cI, 4, .inl c_this_of)), (a_this_stackOther, .inl (cI, 64, .inl (upd b152_c_this_stackOther b152_l3.toNatClampNeg (0 : Int32)))), (a_this_stackOne, .inl (cI, 64, .inl (upd b152_c_this_stackOne (b152_l3 + 1).toNatClampNeg ((b57_c_this_stackOne (b57_l3 + (-1)).toNatClampNeg) + (1 : Int32)))))] := hD
                      refine lv_aload_n hx hb dX10_toWord_177 rfl (lv_at hl 1 rfl) ?_
                      refine va_get (D := D) (ci := 9) (v := .ref a_this_stackOther) (C := RX10) (T := TX10) (N := 17) hx hb htc inX10 hown hV.1 hP 0 rfl rfl 10 (by decide) (htc _ w_4_8) (fun _ h9 => h9) rfl dX10_toWord_178 ?_
                      refine lv_iload_n hx hb dX10_toWord_181 rfl (lv_at hl 0 rfl) ?_
                      refine lv_iload hx hb dX10_toWord_182 (lv_at hl 5 rfl) ?_
                      refine va_iast hx hb hV.1 hP hD hS 4 0 rfl rfl hg11 dX10_toWord_184 (fun H locs hP hD hS => ?_)
                      have hP : va_P D vwCl [(a_this, .inr (9, [.ref a_this_chosen, .ref a_this_factorial, .ref a_this_catalan, .ref a_this_parted, .ref a_this_closed, .int f_this_now, .ref a_this_of, .ref a_this_buffer, .ref a_this_made, .ref a_this_stackOne, .ref a_this_stackOther, .ref a_this_stackLong, .ref a_this_left, .int f_this_entryMany, .ref a_this_entryFamily, .ref a_this_entryOf, .ref a_this_entryRank])), (a_this_buffer, .inl (cI, 60, .inl c_this_buffer)), (a_this_made, .inl (cI, 60, .inl (upd b57_c_this_made b57_l2.toNatClampNeg b95_t2))), (a_this_of, .inl (cI, 4, .inl c_this_of)), (a_this_stackOther, .inl (cI, 64, .inl (upd (upd b152_c_this_stackOther b152_l3.toNatClampNeg (0 : Int32)) (b152_l3 + 1).toNatClampNeg (c_this_buffer (b57_c_this_stackOne (b57_l3 + (-1)).toNatClampNeg).toNatClampNeg)))), (a_this_stackOne, .inl (cI, 64, .inl (upd b152_c_this_stackOne (b152_l3 + 1).toNatClampNeg ((b57_c_this_stackOne (b57_l3 + (-1)).toNatClampNeg) + (1 : Int32)))))] H := hP
                      have hD : va_D A [(a_this, .inr (9, [.ref a_this_chosen, .ref a_this_factorial, .ref a_this_catalan, .ref a_this_parted, .ref a_this_closed, .int f_this_now, .ref a_this_of, .ref a_this_buffer, .ref a_this_made, .ref a_this_stackOne, .ref a_this_stackOther, .ref a_this_stackLong, .ref a_this_left, .int f_this_entryMany, .ref a_this_entryFamily, .ref a_this_entryOf, .ref a_this_entryRank])), (a_this_buffer, .inl (cI, 60, .inl c_this_buffer)), (a_this_made, .inl (cI, 60, .inl (upd b57_c_this_made b57_l2.toNatClampNeg b95_t2))), (a_this_of, .inl (cI, 4, .inl c_this_of)), (a_this_stackOther, .inl (cI, 64, .inl (upd (upd b152_c_this_stackOther b152_l3.toNatClampNeg (0 : Int32)) (b152_l3 + 1).toNatClampNeg (c_this_buffer (b57_c_this_stackOne (b57_l3 + (-1)).toNatClampNeg).toNatClampNeg)))), (a_this_stackOne, .inl (cI, 64, .inl (upd b152_c_this_stackOne (b152_l3 + 1).toNatClampNeg ((b57_c_this_stackOne (b57_l3 + (-1)).toNatClampNeg) + (1 : Int32)))))] := hD
                      refine lv_iinc (v := ((b152_l3 + 1) + 1)) (lv' := [(3, .int ((b152_l3 + 1) + 1)), (0, .ref a_this), (1, .int (c_this_of 0)), (2, .int (b57_l2 + 1)), (4, .int (b57_c_this_stackOne (b57_l3 + (-1)).toNatClampNeg)), (6, .int (c_this_buffer (b57_c_this_stackOne (b57_l3 + (-1)).toNatClampNeg).toNatClampNeg))]) hx hb dX10_toWord_185 hl (k := 0) rfl rfl (by decide) rfl (fun ls hl => ?_)
                      exact B188 ((b152_l3 + 1) + 1) (upd b152_c_this_stackOne (b152_l3 + 1).toNatClampNeg ((b57_c_this_stackOne (b57_l3 + (-1)).toNatClampNeg) + (1 : Int32))) (upd (upd b152_c_this_stackOther b152_l3.toNatClampNeg (0 : Int32)) (b152_l3 + 1).toNatClampNeg (c_this_buffer (b57_c_this_stackOne (b57_l3 + (-1)).toNatClampNeg).toNatClampNeg)) h _ _ hP hD hS _ (lv_sub hl [1, 2, 3, 0] rfl)
                  refine lv_if_le (tgt := 152) hx hb dX10_toWord_120 (by decide) (fun hc12 => ?_) (fun hc12 => ?_)
                  · have h := rk_if hc12 h
                    exact B152 (b57_l3 + (-1)) b57_c_this_stackOne b57_c_this_stackOther h _ _ hP hD hS _ (lv_sub hl [2, 3, 1, 4, 5, 0] rfl)
                  · have h := rk_nif hc12 h
                    refine lv_aload_n hx hb dX10_toWord_123 rfl (lv_at hl 2 rfl) ?_
                    refine va_get (D := D) (ci := 9) (v := .ref a_this_stackOne) (C := RX10) (T := TX10) (N := 17) hx hb htc inX10 hown hV.1 hP 0 rfl rfl 9 (by decide) (htc _ w_4_7) (fun _ h9 => h9) rfl dX10_toWord_124 ?_
                    refine lv_iload_n hx hb dX10_toWord_127 rfl (lv_at hl 4 rfl) ?_
                    refine lv_iload hx hb dX10_toWord_128 (lv_at hl 5 rfl) ?_
                    refine lv_iconst (v := 1) hx hb dX10_toWord_130 (by decide) ?_
                    refine lv_iadd hx hb dX10_toWord_131 ?_
                    refine lv_iload hx hb dX10_toWord_132 (lv_at hl 0 rfl) ?_
                    refine lv_iadd hx hb dX10_toWord_134 ?_
                    refine va_iast hx hb hV.1 hP hD hS 5 0 rfl rfl hg5 dX10_toWord_135 (fun H locs hP hD hS => ?_)
                    have hP : va_P D vwCl [(a_this, .inr (9, [.ref a_this_chosen, .ref a_this_factorial, .ref a_this_catalan, .ref a_this_parted, .ref a_this_closed, .int f_this_now, .ref a_this_of, .ref a_this_buffer, .ref a_this_made, .ref a_this_stackOne, .ref a_this_stackOther, .ref a_this_stackLong, .ref a_this_left, .int f_this_entryMany, .ref a_this_entryFamily, .ref a_this_entryOf, .ref a_this_entryRank])), (a_this_buffer, .inl (cI, 60, .inl c_this_buffer)), (a_this_made, .inl (cI, 60, .inl (upd b57_c_this_made b57_l2.toNatClampNeg b95_t2))), (a_this_of, .inl (cI, 4, .inl c_this_of)), (a_this_stackOther, .inl (cI, 64, .inl b57_c_this_stackOther)), (a_this_stackOne, .inl (cI, 64, .inl (upd b57_c_this_stackOne (b57_l3 + (-1)).toNatClampNeg (((b57_c_this_stackOne (b57_l3 + (-1)).toNatClampNeg) + (1 : Int32)) + (c_this_buffer (b57_c_this_stackOne (b57_l3 + (-1)).toNatClampNeg).toNatClampNeg)))))] H := hP
                    have hD : va_D A [(a_this, .inr (9, [.ref a_this_chosen, .ref a_this_factorial, .ref a_this_catalan, .ref a_this_parted, .ref a_this_closed, .int f_this_now, .ref a_this_of, .ref a_this_buffer, .ref a_this_made, .ref a_this_stackOne, .ref a_this_stackOther, .ref a_this_stackLong, .ref a_this_left, .int f_this_entryMany, .ref a_this_entryFamily, .ref a_this_entryOf, .ref a_this_entryRank])), (a_this_buffer, .inl (cI, 60, .inl c_this_buffer)), (a_this_made, .inl (cI, 60, .inl (upd b57_c_this_made b57_l2.toNatClampNeg b95_t2))), (a_this_of, .inl (cI, 4, .inl c_this_of)), (a_this_stackOther, .inl (cI, 64, .inl b57_c_this_stackOther)), (a_this_stackOne, .inl (cI, 64, .inl (upd b57_c_this_stackOne (b57_l3 + (-1)).toNatClampNeg (((b57_c_this_stackOne (b57_l3 + (-1)).toNatClampNeg) + (1 : Int32)) + (c_this_buffer (b57_c_this_stackOne (b57_l3 + (-1)).toNatClampNeg).toNatClampNeg)))))] := hD
                    refine lv_aload_n hx hb dX10_toWord_136 rfl (lv_at hl 2 rfl) ?_
                    refine va_get (D := D) (ci := 9) (v := .ref a_this_stackOther) (C := RX10) (T := TX10) (N := 17) hx hb htc inX10 hown hV.1 hP 0 rfl rfl 10 (by decide) (htc _ w_4_8) (fun _ h9 => h9) rfl dX10_toWord_137 ?_
                    refine lv_iload_n hx hb dX10_toWord_140 rfl (lv_at hl 4 rfl) ?_
                    refine lv_iload hx hb dX10_toWord_141 (lv_at hl 6 rfl) ?_
                    refine lv_iconst (v := 1) hx hb dX10_toWord_143 (by decide) ?_
                    refine lv_isub hx hb dX10_toWord_144 ?_
                    refine lv_iload hx hb dX10_toWord_145 (lv_at hl 0 rfl) ?_
                    refine lv_isub hx hb dX10_toWord_147 ?_
                    refine va_iast hx hb hV.1 hP hD hS 4 0 rfl rfl hg5 dX10_toWord_148 (fun H locs hP hD hS => ?_)
                    have hP : va_P D vwCl [(a_this, .inr (9, [.ref a_this_chosen, .ref a_this_factorial, .ref a_this_catalan, .ref a_this_parted, .ref a_this_closed, .int f_this_now, .ref a_this_of, .ref a_this_buffer, .ref a_this_made, .ref a_this_stackOne, .ref a_this_stackOther, .ref a_this_stackLong, .ref a_this_left, .int f_this_entryMany, .ref a_this_entryFamily, .ref a_this_entryOf, .ref a_this_entryRank])), (a_this_buffer, .inl (cI, 60, .inl c_this_buffer)), (a_this_made, .inl (cI, 60, .inl (upd b57_c_this_made b57_l2.toNatClampNeg b95_t2))), (a_this_of, .inl (cI, 4, .inl c_this_of)), (a_this_stackOther, .inl (cI, 64, .inl (upd b57_c_this_stackOther (b57_l3 + (-1)).toNatClampNeg (((b57_c_this_stackOther (b57_l3 + (-1)).toNatClampNeg) - (1 : Int32)) - (c_this_buffer (b57_c_this_stackOne (b57_l3 + (-1)).toNatClampNeg).toNatClampNeg))))), (a_this_stackOne, .inl (cI, 64, .inl (upd b57_c_this_stackOne (b57_l3 + (-1)).toNatClampNeg (((b57_c_this_stackOne (b57_l3 + (-1)).toNatClampNeg) + (1 : Int32)) + (c_this_buffer (b57_c_this_stackOne (b57_l3 + (-1)).toNatClampNeg).toNatClampNeg)))))] H := hP
                    have hD : va_D A [(a_this, .inr (9, [.ref a_this_chosen, .ref a_this_factorial, .ref a_this_catalan, .ref a_this_parted, .ref a_this_closed, .int f_this_now, .ref a_this_of, .ref a_this_buffer, .ref a_this_made, .ref a_this_stackOne, .ref a_this_stackOther, .ref a_this_stackLong, .ref a_this_left, .int f_this_entryMany, .ref a_this_entryFamily, .ref a_this_entryOf, .ref a_this_entryRank])), (a_this_buffer, .inl (cI, 60, .inl c_this_buffer)), (a_this_made, .inl (cI, 60, .inl (upd b57_c_this_made b57_l2.toNatClampNeg b95_t2))), (a_this_of, .inl (cI, 4, .inl c_this_of)), (a_this_stackOther, .inl (cI, 64, .inl (upd b57_c_this_stackOther (b57_l3 + (-1)).toNatClampNeg (((b57_c_this_stackOther (b57_l3 + (-1)).toNatClampNeg) - (1 : Int32)) - (c_this_buffer (b57_c_this_stackOne (b57_l3 + (-1)).toNatClampNeg).toNatClampNeg))))), (a_this_stackOne, .inl (cI, 64, .inl (upd b57_c_this_stackOne (b57_l3 + (-1)).toNatClampNeg (((b57_c_this_stackOne (b57_l3 + (-1)).toNatClampNeg) + (1 : Int32)) + (c_this_buffer (b57_c_this_stackOne (b57_l3 + (-1)).toNatClampNeg).toNatClampNeg)))))] := hD
                    refine lv_iinc (v := ((b57_l3 + (-1)) + 1)) (lv' := [(3, .int ((b57_l3 + (-1)) + 1)), (6, .int (c_this_buffer (b57_c_this_stackOne (b57_l3 + (-1)).toNatClampNeg).toNatClampNeg)), (2, .int (b57_l2 + 1)), (0, .ref a_this), (1, .int (c_this_of 0)), (4, .int (b57_c_this_stackOne (b57_l3 + (-1)).toNatClampNeg)), (5, .int (b57_c_this_stackOther (b57_l3 + (-1)).toNatClampNeg))]) hx hb dX10_toWord_149 hl (k := 4) rfl rfl (by decide) rfl (fun ls hl => ?_)
                    exact B152 ((b57_l3 + (-1)) + 1) (upd b57_c_this_stackOne (b57_l3 + (-1)).toNatClampNeg (((b57_c_this_stackOne (b57_l3 + (-1)).toNatClampNeg) + (1 : Int32)) + (c_this_buffer (b57_c_this_stackOne (b57_l3 + (-1)).toNatClampNeg).toNatClampNeg))) (upd b57_c_this_stackOther (b57_l3 + (-1)).toNatClampNeg (((b57_c_this_stackOther (b57_l3 + (-1)).toNatClampNeg) - (1 : Int32)) - (c_this_buffer (b57_c_this_stackOne (b57_l3 + (-1)).toNatClampNeg).toNatClampNeg))) h _ _ hP hD hS _ (lv_sub hl [3, 4, 2, 0, 5, 1] rfl)
              refine lv_if_ne (tgt := 94) hx hb dX10_toWord_87 (by decide) (fun hc13 => ?_) (fun hc13 => ?_)
              · have h := rk_if hc13 h
                refine lv_iconst (v := 0) hx hb dX10_toWord_94 (by decide) ?_
                exact B95 (0 : Int32) h _ _ hP hD hS _ (lv_sub hl [3, 4, 5, 2, 1, 0] rfl)
              · have h := rk_nnif hc13 h
                refine lv_iconst (v := 1) hx hb dX10_toWord_90 (by decide) ?_
                refine lv_goto (tgt := 95) hx hb dX10_toWord_91 (by decide) ?_
                exact B95 (1 : Int32) h _ _ hP hD hS _ (lv_sub hl [3, 4, 5, 2, 1, 0] rfl)
        exact L57 FU (0 : Int32) (1 : Int32) c_this_made (upd r_23.2 0 (0 : Int32)) (upd c_this_stackOther 0 (c_this_of 0)) h _ _ hP hD hS _ (lv_sub hl [3, 2, 1, 0] rfl)
      · have h := rk_nnif hc3 h
        refine lv_bipush (v := (-2)) hx hb dX10_toWord_29 (by decide) ?_
        exact hret ((-2 : Int32), f_this_now, c_this_buffer, c_this_made, c_this_of, r_23.2, c_this_stackOther) _ _ _ _ h dX10_toWord_31 (hP.sub [0, 1, 2, 3, 5, 4] rfl) (hD.sub [0, 1, 2, 3, 5, 4] (by decide) rfl) hS
    · have h := rk_nif hc2 h
      refine lv_bipush (v := (-3)) hx hb dX10_toWord_19 (by decide) ?_
      exact hret ((-3 : Int32), f_this_now, c_this_buffer, c_this_made, c_this_of, c_this_stackOne, c_this_stackOther) _ _ _ _ h dX10_toWord_21 hP hD hS
set_option maxHeartbeats 4000000 in
set_option maxRecDepth 100000 in
theorem mtX10_closeOf (l : Launch) (D : va_G) (cI cJ cO : ClassId) (PL : va_W) (sz : Nat) (a_this : Nat) (a_this_chosen : Nat) (a_this_factorial : Nat) (a_this_catalan : Nat) (a_this_parted : Nat) (a_this_closed : Nat) (f_this_now : Int32) (a_this_of : Nat) (a_this_buffer : Nat) (a_this_made : Nat) (a_this_stackOne : Nat) (a_this_stackOther : Nat) (a_this_stackLong : Nat) (a_this_left : Nat) (f_this_entryMany : Int32) (a_this_entryFamily : Nat) (a_this_entryOf : Nat) (a_this_entryRank : Nat) (c_this_buffer : Nat → Int32) (v_p1 : Int32) (r0 : Int32) (h : fX10_closeOf c_this_buffer v_p1 = some r0) : Met l yX10_closeOf (rk_w yX10_closeOf cX10_closeOf 4 (some .int)) rmX10_closeOf (va_Pc [.ref a_this, .int v_p1] (rk_B D (rk_TY cI cJ cO) [] [(a_this, .inr (9, [.ref a_this_chosen, .ref a_this_factorial, .ref a_this_catalan, .ref a_this_parted, .ref a_this_closed, .int f_this_now, .ref a_this_of, .ref a_this_buffer, .ref a_this_made, .ref a_this_stackOne, .ref a_this_stackOther, .ref a_this_stackLong, .ref a_this_left, .int f_this_entryMany, .ref a_this_entryFamily, .ref a_this_entryOf, .ref a_this_entryRank])), (a_this_buffer, .inl (cI, 60, .inl c_this_buffer))] PL sz)) (rk_Qi r0 D [] [] sz) 0 0 (va_A [] sz) := by
  refine rk_meti h (fun x : Int32 => x) (fun x => []) (by decide) (Nat.le_of_ble_eq_true rfl) ?_
  intro p e s m args below meth c A ls Q hret hname hF hP hD hA hV hR0 hn hPL hnl hl h hS
  have hx := hF.1
  have hb := hF.2.1
  have hml := hF.2.2.1
  have hown : s.vm.findClass RX10 = some m.cls := hF.2.2.2.1
  have htc := hF.2.2.2.2
  have hP : va_P D vwCl [] s.heap := hP
  have hD : va_D A [] := hD
  have hR0 : va_P D vwCl [(a_this, .inr (9, [.ref a_this_chosen, .ref a_this_factorial, .ref a_this_catalan, .ref a_this_parted, .ref a_this_closed, .int f_this_now, .ref a_this_of, .ref a_this_buffer, .ref a_this_made, .ref a_this_stackOne, .ref a_this_stackOther, .ref a_this_stackLong, .ref a_this_left, .int f_this_entryMany, .ref a_this_entryFamily, .ref a_this_entryOf, .ref a_this_entryRank])), (a_this_buffer, .inl (cI, 60, .inl c_this_buffer))] s.heap := hR0
  have hR := hR0
  have hl : lv_has ls 4 [(0, .ref a_this), (1, .int v_p1)] := hl
  unfold fX10_closeOf at h
  refine lv_iconst (v := 1) hx hb dX10_closeOf_0 (by decide) ?_
  refine lv_istore_n (lv' := [(2, .int (1 : Int32)), (0, .ref a_this), (1, .int v_p1)]) hx hb dX10_closeOf_1 rfl hl (by decide) rfl (fun ls hl => ?_)
  refine lv_iload_n hx hb dX10_closeOf_2 rfl (lv_at hl 2 rfl) ?_
  refine lv_istore_n (lv' := [(3, .int v_p1), (2, .int (1 : Int32)), (0, .ref a_this), (1, .int v_p1)]) hx hb dX10_closeOf_3 rfl hl (by decide) rfl (fun ls hl => ?_)
  have L4 : ∀ (n4 : Nat) (b4_l2 : Int32) (b4_l3 : Int32), rk_it2 (fX10_closeOf_L4 c_this_buffer) n4 b4_l2 b4_l3 = some r0 → ∀ (H : Heap) (locs : List Loc), va_P D vwCl [] H → va_D A [] → va_S A s.heap H locs → ∀ (ls : Array Slot), lv_has ls 4 [(0, .ref a_this), (2, .int b4_l2), (3, .int b4_l3)] → W p l e rmX10_closeOf s m args below meth c H locs 0 0 Q (F0 m 4 ls []) := by
    intro n4
    induction n4 with
    | zero => intro b4_l2 b4_l3 h; exact rk_no h
    | succ n4 ih4 =>
      intro b4_l2 b4_l3 h H locs hP hD hS ls hl
      have h : fX10_closeOf_L4 c_this_buffer (rk_it2 (fX10_closeOf_L4 c_this_buffer) n4) b4_l2 b4_l3 = some r0 := h
      unfold fX10_closeOf_L4 at h
      have hR := rk_keep hR0 hn hS
      refine lv_iload_n hx hb dX10_closeOf_4 rfl (lv_at hl 1 rfl) ?_
      refine lv_if_le (tgt := 31) hx hb dX10_closeOf_5 (by decide) (fun hc1 => ?_) (fun hc1 => ?_)
      · have h := rk_if hc1 h
        refine lv_iload_n hx hb dX10_closeOf_31 rfl (lv_at hl 2 rfl) ?_
        exact hret b4_l3 _ _ _ _ h dX10_closeOf_32 hP hD hS
      · have h := rk_nif hc1 h
        refine lv_iinc (v := (b4_l3 + 1)) (lv' := [(3, .int (b4_l3 + 1)), (0, .ref a_this), (2, .int b4_l2)]) hx hb dX10_closeOf_8 hl (k := 2) rfl rfl (by decide) rfl (fun ls hl => ?_)
        refine lv_iload_n hx hb dX10_closeOf_11 rfl (lv_at hl 2 rfl) ?_
        refine lv_aload_n hx hb dX10_closeOf_12 rfl (lv_at hl 1 rfl) ?_
        refine va_get (D := D) (ci := 9) (v := .ref a_this_buffer) (C := RX10) (T := TX10) (N := 17) hx hb htc inX10 hown hV.1 hR 0 rfl rfl 7 (by decide) (htc _ w_4_5) (fun _ h9 => h9) rfl dX10_closeOf_13 ?_
        refine lv_iload_n hx hb dX10_closeOf_16 rfl (lv_at hl 0 rfl) ?_
        obtain ⟨hg2, h⟩ := rk_gd h
        refine va_iald hx hb hV.1 hR 1 0 rfl rfl hg2 dX10_closeOf_17 ?_
        have B26 : ∀ (b26_t1 : Int32), fX10_closeOf_B26 b4_l2 b4_l3 (rk_it2 (fX10_closeOf_L4 c_this_buffer) n4) b26_t1 = some r0 → ∀ (H : Heap) (locs : List Loc), va_P D vwCl [] H → va_D A [] → va_S A s.heap H locs → ∀ (ls : Array Slot), lv_has ls 4 [(0, .ref a_this), (3, .int (b4_l3 + 1))] → W p l e rmX10_closeOf s m args below meth c H locs 0 0 Q (F0 m 26 ls [.int b26_t1, .int b4_l2]) := by
          intro b26_t1 h H locs hP hD hS ls hl
          unfold fX10_closeOf_B26 at h
          have hR := rk_keep hR0 hn hS
          refine lv_iadd hx hb dX10_closeOf_26 ?_
          refine lv_istore_n (lv' := [(2, .int (b4_l2 + b26_t1)), (0, .ref a_this), (3, .int (b4_l3 + 1))]) hx hb dX10_closeOf_27 rfl hl (by decide) rfl (fun ls hl => ?_)
          refine lv_goto (tgt := 4) hx hb dX10_closeOf_28 (by decide) ?_
          exact ih4 (b4_l2 + b26_t1) (b4_l3 + 1) h _ _ hP hD hS _ (lv_sub hl [1, 0, 2] rfl)
        refine lv_if_ne (tgt := 25) hx hb dX10_closeOf_18 (by decide) (fun hc3 => ?_) (fun hc3 => ?_)
        · have h := rk_if hc3 h
          refine lv_iconst (v := (-1)) hx hb dX10_closeOf_25 (by decide) ?_
          exact B26 (-1 : Int32) h _ _ hP hD hS _ (lv_sub hl [1, 0] rfl)
        · have h := rk_nnif hc3 h
          refine lv_iconst (v := 1) hx hb dX10_closeOf_21 (by decide) ?_
          refine lv_goto (tgt := 26) hx hb dX10_closeOf_22 (by decide) ?_
          exact B26 (1 : Int32) h _ _ hP hD hS _ (lv_sub hl [1, 0] rfl)
  exact L4 FU (1 : Int32) v_p1 h _ _ hP hD hS _ (lv_sub hl [2, 1, 0] rfl)
set_option maxHeartbeats 4000000 in
set_option maxRecDepth 100000 in
theorem mtX10_toTree (l : Launch) (D : va_G) (cI cJ cO : ClassId) (PL : va_W) (sz : Nat) (a_this : Nat) (a_this_chosen : Nat) (a_this_factorial : Nat) (a_this_catalan : Nat) (a_this_parted : Nat) (a_this_closed : Nat) (f_this_now : Int32) (a_this_of : Nat) (a_this_buffer : Nat) (a_this_made : Nat) (a_this_stackOne : Nat) (a_this_stackOther : Nat) (a_this_stackLong : Nat) (a_this_left : Nat) (f_this_entryMany : Int32) (a_this_entryFamily : Nat) (a_this_entryOf : Nat) (a_this_entryRank : Nat) (c_this_buffer : Nat → Int32) (c_this_made : Nat → Int32) (c_this_of : Nat → Int32) (c_this_stackOne : Nat → Int32) (r0 : Int32 × Int32 × (Nat → Int32) × (Nat → Int32) × (Nat → Int32) × (Nat → Int32)) (h : fX10_toTree f_this_now c_this_buffer c_this_made c_this_of c_this_stackOne = some r0) : Met l yX10_toTree (rk_w yX10_toTree cX10_toTree 3 (some .int)) rmX10_toTree (va_Pc [.ref a_this] (rk_B D (rk_TY cI cJ cO) [(a_this, .inr (9, [.ref a_this_chosen, .ref a_this_factorial, .ref a_this_catalan, .ref a_this_parted, .ref a_this_closed, .int f_this_now, .ref a_this_of, .ref a_this_buffer, .ref a_this_made, .ref a_this_stackOne, .ref a_this_stackOther, .ref a_this_stackLong, .ref a_this_left, .int f_this_entryMany, .ref a_this_entryFamily, .ref a_this_entryOf, .ref a_this_entryRank])), (a_this_buffer, .inl (cI, 60, .inl c_this_buffer)), (a_this_made, .inl (cI, 60, .inl c_this_made)), (a_this_of, .inl (cI, 4, .inl c_this_of)), (a_this_stackOne, .inl (cI, 64, .inl c_this_stackOne))] [] PL sz)) (rk_Qi r0.1 D [(a_this, .inr (9, [.ref a_this_chosen, .ref a_this_factorial, .ref a_this_catalan, .ref a_this_parted, .ref a_this_closed, .int r0.2.1, .ref a_this_of, .ref a_this_buffer, .ref a_this_made, .ref a_this_stackOne, .ref a_this_stackOther, .ref a_this_stackLong, .ref a_this_left, .int f_this_entryMany, .ref a_this_entryFamily, .ref a_this_entryOf, .ref a_this_entryRank])), (a_this_buffer, .inl (cI, 60, .inl r0.2.2.1)), (a_this_made, .inl (cI, 60, .inl r0.2.2.2.1)), (a_this_of, .inl (cI, 4, .inl r0.2.2.2.2.1)), (a_this_stackOne, .inl (cI, 64, .inl r0.2.2.2.2.2))] [(a_this, .inr (9, [.ref a_this_chosen, .ref a_this_factorial, .ref a_this_catalan, .ref a_this_parted, .ref a_this_closed, .int f_this_now, .ref a_this_of, .ref a_this_buffer, .ref a_this_made, .ref a_this_stackOne, .ref a_this_stackOther, .ref a_this_stackLong, .ref a_this_left, .int f_this_entryMany, .ref a_this_entryFamily, .ref a_this_entryOf, .ref a_this_entryRank])), (a_this_buffer, .inl (cI, 60, .inl c_this_buffer)), (a_this_made, .inl (cI, 60, .inl c_this_made)), (a_this_of, .inl (cI, 4, .inl c_this_of)), (a_this_stackOne, .inl (cI, 64, .inl c_this_stackOne))] sz) 0 0 (va_A [(a_this, .inr (9, [.ref a_this_chosen, .ref a_this_factorial, .ref a_this_catalan, .ref a_this_parted, .ref a_this_closed, .int f_this_now, .ref a_this_of, .ref a_this_buffer, .ref a_this_made, .ref a_this_stackOne, .ref a_this_stackOther, .ref a_this_stackLong, .ref a_this_left, .int f_this_entryMany, .ref a_this_entryFamily, .ref a_this_entryOf, .ref a_this_entryRank])), (a_this_buffer, .inl (cI, 60, .inl c_this_buffer)), (a_this_made, .inl (cI, 60, .inl c_this_made)), (a_this_of, .inl (cI, 4, .inl c_this_of)), (a_this_stackOne, .inl (cI, 64, .inl c_this_stackOne))] sz) := by
  refine rk_meti h (fun x : Int32 × Int32 × (Nat → Int32) × (Nat → Int32) × (Nat → Int32) × (Nat → Int32) => x.1) (fun x => [(a_this, .inr (9, [.ref a_this_chosen, .ref a_this_factorial, .ref a_this_catalan, .ref a_this_parted, .ref a_this_closed, .int x.2.1, .ref a_this_of, .ref a_this_buffer, .ref a_this_made, .ref a_this_stackOne, .ref a_this_stackOther, .ref a_this_stackLong, .ref a_this_left, .int f_this_entryMany, .ref a_this_entryFamily, .ref a_this_entryOf, .ref a_this_entryRank])), (a_this_buffer, .inl (cI, 60, .inl x.2.2.1)), (a_this_made, .inl (cI, 60, .inl x.2.2.2.1)), (a_this_of, .inl (cI, 4, .inl x.2.2.2.2.1)), (a_this_stackOne, .inl (cI, 64, .inl x.2.2.2.2.2))]) (by decide) (Nat.le_of_ble_eq_true rfl) ?_
  intro p e s m args below meth c A ls Q hret hname hF hP hD hA hV hR0 hn hPL hnl hl h hS
  have hx := hF.1
  have hb := hF.2.1
  have hml := hF.2.2.1
  have hown : s.vm.findClass RX10 = some m.cls := hF.2.2.2.1
  have htc := hF.2.2.2.2
  have hP : va_P D vwCl [(a_this, .inr (9, [.ref a_this_chosen, .ref a_this_factorial, .ref a_this_catalan, .ref a_this_parted, .ref a_this_closed, .int f_this_now, .ref a_this_of, .ref a_this_buffer, .ref a_this_made, .ref a_this_stackOne, .ref a_this_stackOther, .ref a_this_stackLong, .ref a_this_left, .int f_this_entryMany, .ref a_this_entryFamily, .ref a_this_entryOf, .ref a_this_entryRank])), (a_this_buffer, .inl (cI, 60, .inl c_this_buffer)), (a_this_made, .inl (cI, 60, .inl c_this_made)), (a_this_of, .inl (cI, 4, .inl c_this_of)), (a_this_stackOne, .inl (cI, 64, .inl c_this_stackOne))] s.heap := hP
  have hD : va_D A [(a_this, .inr (9, [.ref a_this_chosen, .ref a_this_factorial, .ref a_this_catalan, .ref a_this_parted, .ref a_this_closed, .int f_this_now, .ref a_this_of, .ref a_this_buffer, .ref a_this_made, .ref a_this_stackOne, .ref a_this_stackOther, .ref a_this_stackLong, .ref a_this_left, .int f_this_entryMany, .ref a_this_entryFamily, .ref a_this_entryOf, .ref a_this_entryRank])), (a_this_buffer, .inl (cI, 60, .inl c_this_buffer)), (a_this_made, .inl (cI, 60, .inl c_this_made)), (a_this_of, .inl (cI, 4, .inl c_this_of)), (a_this_stackOne, .inl (cI, 64, .inl c_this_stackOne))] := hD
  have hR0 : va_P D vwCl [] s.heap := hR0
  have hR := hR0
  have hl : lv_has ls 3 [(0, .ref a_this)] := hl
  unfold fX10_toTree at h
  refine lv_aload_n hx hb dX10_toTree_0 rfl (lv_at hl 0 rfl) ?_
  refine va_get (D := D) (ci := 9) (v := .int f_this_now) (C := RX10) (T := TX10) (N := 17) hx hb htc inX10 hown hV.1 hP 0 rfl rfl 5 (by decide) (htc _ w_4_3) (fun _ h9 => h9) rfl dX10_toTree_1 ?_
  refine lv_iconst (v := 2) hx hb dX10_toTree_4 (by decide) ?_
  refine lv_icmp_ne (tgt := 18) hx hb dX10_toTree_5 (by decide) (fun hc1 => ?_) (fun hc1 => ?_)
  · have h := rk_if hc1 h
    refine lv_bipush (v := (-3)) hx hb dX10_toTree_18 (by decide) ?_
    exact hret ((-3 : Int32), f_this_now, c_this_buffer, c_this_made, c_this_of, c_this_stackOne) _ _ _ _ h dX10_toTree_20 hP hD hS
  · have h := rk_nnif hc1 h
    refine lv_aload_n hx hb dX10_toTree_8 rfl (lv_at hl 0 rfl) ?_
    refine va_get (D := D) (ci := 9) (v := .ref a_this_of) (C := RX10) (T := TX10) (N := 17) hx hb htc inX10 hown hV.1 hP 0 rfl rfl 6 (by decide) (htc _ w_4_4) (fun _ h9 => h9) rfl dX10_toTree_9 ?_
    refine lv_iconst (v := 1) hx hb dX10_toTree_12 (by decide) ?_
    refine va_iald hx hb hV.1 hP 3 0 rfl rfl (show vp_in (1 : Int32) 4 from (by decide : ¬ ((1 : Int32) < 0 ∨ 4 ≤ (1 : Int32).toNatClampNeg))) dX10_toTree_13 ?_
    refine W.eq (g2 := F0 m 14 ls [.int (c_this_of 1)]) rfl ?_
    refine lv_iconst (v := 1) hx hb dX10_toTree_14 (by decide) ?_
    refine lv_icmp_eq (tgt := 21) hx hb dX10_toTree_15 (by decide) (fun hc2 => ?_) (fun hc2 => ?_)
    · have h := rk_if hc2 h
      refine lv_aload_n hx hb dX10_toTree_21 rfl (lv_at hl 0 rfl) ?_
      obtain ⟨r_22, hc_22, h⟩ := rk_bd h
      refine rk_i (wr := [(a_this, .inr (9, [.ref a_this_chosen, .ref a_this_factorial, .ref a_this_catalan, .ref a_this_parted, .ref a_this_closed, .int f_this_now, .ref a_this_of, .ref a_this_buffer, .ref a_this_made, .ref a_this_stackOne, .ref a_this_stackOther, .ref a_this_stackLong, .ref a_this_left, .int f_this_entryMany, .ref a_this_entryFamily, .ref a_this_entryOf, .ref a_this_entryRank])), (a_this_buffer, .inl (cI, 60, .inl c_this_buffer)), (a_this_made, .inl (cI, 60, .inl c_this_made)), (a_this_of, .inl (cI, 4, .inl c_this_of))]) (va_runV (C := RX10) (As := []) (rest := []) hF (mtX10_isGood l D cI cJ cO PL _ a_this a_this_chosen a_this_factorial a_this_catalan a_this_parted a_this_closed f_this_now a_this_of a_this_buffer a_this_made a_this_stackOne a_this_stackOther a_this_stackLong a_this_left f_this_entryMany a_this_entryFamily a_this_entryOf a_this_entryRank c_this_stackOne c_this_buffer c_this_of r_22 hc_22) (cwV 0 htc (rk_gV w_4_189 w_4_191 ws_54 w_1_7 w_4_192) rfl rfl rfl (by decide +kernel) ⟨(Nat.le_of_ble_eq_true rfl), (Nat.le_of_ble_eq_true rfl)⟩) (rk_preV (va_recv hV.1 hP (ci := 9) (q0 := 0) rfl rfl) (rk_preS hP hD hS rk_nilP hn hPL hnl hV [4] [(true, 0), (true, 1), (true, 3)] rfl (by decide) rfl (by decide))) rfl rfl hl.1 rfl (lv_room (Nat.le_of_ble_eq_true rfl)) dX10_toTree_22 ⟨(Nat.le_of_ble_eq_true rfl), (Nat.le_of_ble_eq_true rfl)⟩) hP hD hS hA hR0 hn [4] [0, 1, 2, 3] rfl rfl (by decide) (by decide) (fun H locs hP hD hS hR => ?_)
      have hP : va_P D vwCl [(a_this, .inr (9, [.ref a_this_chosen, .ref a_this_factorial, .ref a_this_catalan, .ref a_this_parted, .ref a_this_closed, .int f_this_now, .ref a_this_of, .ref a_this_buffer, .ref a_this_made, .ref a_this_stackOne, .ref a_this_stackOther, .ref a_this_stackLong, .ref a_this_left, .int f_this_entryMany, .ref a_this_entryFamily, .ref a_this_entryOf, .ref a_this_entryRank])), (a_this_buffer, .inl (cI, 60, .inl c_this_buffer)), (a_this_made, .inl (cI, 60, .inl c_this_made)), (a_this_of, .inl (cI, 4, .inl c_this_of)), (a_this_stackOne, .inl (cI, 64, .inl r_22.2))] H := hP
      have hD : va_D A [(a_this, .inr (9, [.ref a_this_chosen, .ref a_this_factorial, .ref a_this_catalan, .ref a_this_parted, .ref a_this_closed, .int f_this_now, .ref a_this_of, .ref a_this_buffer, .ref a_this_made, .ref a_this_stackOne, .ref a_this_stackOther, .ref a_this_stackLong, .ref a_this_left, .int f_this_entryMany, .ref a_this_entryFamily, .ref a_this_entryOf, .ref a_this_entryRank])), (a_this_buffer, .inl (cI, 60, .inl c_this_buffer)), (a_this_made, .inl (cI, 60, .inl c_this_made)), (a_this_of, .inl (cI, 4, .inl c_this_of)), (a_this_stackOne, .inl (cI, 64, .inl r_22.2))] := hD
      refine lv_if_ne (tgt := 31) hx hb dX10_toTree_25 (by decide) (fun hc3 => ?_) (fun hc3 => ?_)
      · have h := rk_if hc3 h
        refine lv_iconst (v := 0) hx hb dX10_toTree_31 (by decide) ?_
        refine lv_istore_n (lv' := [(1, .int (0 : Int32)), (0, .ref a_this)]) hx hb dX10_toTree_32 rfl hl (by decide) rfl (fun ls hl => ?_)
        refine lv_iconst (v := 0) hx hb dX10_toTree_33 (by decide) ?_
        refine lv_istore_n (lv' := [(2, .int (0 : Int32)), (1, .int (0 : Int32)), (0, .ref a_this)]) hx hb dX10_toTree_34 rfl hl (by decide) rfl (fun ls hl => ?_)
        have L35 : ∀ (n35 : Nat) (b35_l1 : Int32) (b35_l2 : Int32) (b35_c_this_made : Nat → Int32), rk_it3 (fX10_toTree_L35 c_this_buffer c_this_of r_22) n35 b35_l1 b35_l2 b35_c_this_made = some r0 → ∀ (H : Heap) (locs : List Loc), va_P D vwCl [(a_this, .inr (9, [.ref a_this_chosen, .ref a_this_factorial, .ref a_this_catalan, .ref a_this_parted, .ref a_this_closed, .int f_this_now, .ref a_this_of, .ref a_this_buffer, .ref a_this_made, .ref a_this_stackOne, .ref a_this_stackOther, .ref a_this_stackLong, .ref a_this_left, .int f_this_entryMany, .ref a_this_entryFamily, .ref a_this_entryOf, .ref a_this_entryRank])), (a_this_buffer, .inl (cI, 60, .inl c_this_buffer)), (a_this_made, .inl (cI, 60, .inl b35_c_this_made)), (a_this_of, .inl (cI, 4, .inl c_this_of)), (a_this_stackOne, .inl (cI, 64, .inl r_22.2))] H → va_D A [(a_this, .inr (9, [.ref a_this_chosen, .ref a_this_factorial, .ref a_this_catalan, .ref a_this_parted, .ref a_this_closed, .int f_this_now, .ref a_this_of, .ref a_this_buffer, .ref a_this_made, .ref a_this_stackOne, .ref a_this_stackOther, .ref a_this_stackLong, .ref a_this_left, .int f_this_entryMany, .ref a_this_entryFamily, .ref a_this_entryOf, .ref a_this_entryRank])), (a_this_buffer, .inl (cI, 60, .inl c_this_buffer)), (a_this_made, .inl (cI, 60, .inl b35_c_this_made)), (a_this_of, .inl (cI, 4, .inl c_this_of)), (a_this_stackOne, .inl (cI, 64, .inl r_22.2))] → va_S A s.heap H locs → ∀ (ls : Array Slot), lv_has ls 3 [(0, .ref a_this), (1, .int b35_l1), (2, .int b35_l2)] → W p l e rmX10_toTree s m args below meth c H locs 0 0 Q (F0 m 35 ls []) := by
          intro n35
          induction n35 with
          | zero => intro b35_l1 b35_l2 b35_c_this_made h; exact rk_no h
          | succ n35 ih35 =>
            intro b35_l1 b35_l2 b35_c_this_made h H locs hP hD hS ls hl
            have h : fX10_toTree_L35 c_this_buffer c_this_of r_22 (rk_it3 (fX10_toTree_L35 c_this_buffer c_this_of r_22) n35) b35_l1 b35_l2 b35_c_this_made = some r0 := h
            unfold fX10_toTree_L35 at h
            refine lv_iload_n hx hb dX10_toTree_35 rfl (lv_at hl 2 rfl) ?_
            refine lv_iconst (v := 2) hx hb dX10_toTree_36 (by decide) ?_
            refine lv_aload_n hx hb dX10_toTree_37 rfl (lv_at hl 0 rfl) ?_
            refine va_get (D := D) (ci := 9) (v := .ref a_this_of) (C := RX10) (T := TX10) (N := 17) hx hb htc inX10 hown hV.1 hP 0 rfl rfl 6 (by decide) (htc _ w_4_4) (fun _ h9 => h9) rfl dX10_toTree_38 ?_
            refine lv_iconst (v := 0) hx hb dX10_toTree_41 (by decide) ?_
            refine va_iald hx hb hV.1 hP 3 0 rfl rfl (show vp_in (0 : Int32) 4 from (by decide : ¬ ((0 : Int32) < 0 ∨ 4 ≤ (0 : Int32).toNatClampNeg))) dX10_toTree_42 ?_
            refine W.eq (g2 := F0 m 43 ls [.int (c_this_of 0), .int (2 : Int32), .int b35_l2]) rfl ?_
            refine lv_imul hx hb dX10_toTree_43 ?_
            refine lv_icmp_ge (tgt := 82) hx hb dX10_toTree_44 (by decide) (fun hc4 => ?_) (fun hc4 => ?_)
            · have h := rk_if hc4 h
              refine lv_aload_n hx hb dX10_toTree_82 rfl (lv_at hl 0 rfl) ?_
              refine lv_iconst (v := 3) hx hb dX10_toTree_83 (by decide) ?_
              refine lv_iload_n hx hb dX10_toTree_84 rfl (lv_at hl 1 rfl) ?_
              refine lv_iconst (v := 0) hx hb dX10_toTree_85 (by decide) ?_
              refine lv_iconst (v := 0) hx hb dX10_toTree_86 (by decide) ?_
              refine lv_iconst (v := 0) hx hb dX10_toTree_87 (by decide) ?_
              obtain ⟨r_88, hc_88, h⟩ := rk_bd h
              refine rk_v (wr := [(a_this_buffer, .inl (cI, 60, .inl c_this_buffer)), (a_this_made, .inl (cI, 60, .inl b35_c_this_made)), (a_this_stackOne, .inl (cI, 64, .inl r_22.2))]) (va_runV (C := RX10) (As := [.int (3 : Int32), .int b35_l1, .int (0 : Int32), .int (0 : Int32), .int (0 : Int32)]) (rest := []) hF (mtX10_turnsTo l D cI cJ cO PL _ a_this a_this_chosen a_this_factorial a_this_catalan a_this_parted a_this_closed f_this_now a_this_of a_this_buffer a_this_made a_this_stackOne a_this_stackOther a_this_stackLong a_this_left f_this_entryMany a_this_entryFamily a_this_entryOf a_this_entryRank c_this_of (3 : Int32) b35_l1 (0 : Int32) (0 : Int32) (0 : Int32) r_88 hc_88) (cwV 5 htc (rk_gV w_4_63 w_4_65 ws_36 w_1_7 w_4_66) rfl rfl rfl (by decide +kernel) ⟨(Nat.le_of_ble_eq_true rfl), (Nat.le_of_ble_eq_true rfl)⟩) (rk_preV (va_recv hV.1 hP (ci := 9) (q0 := 0) rfl rfl) (rk_preS hP hD hS rk_nilP hn hPL hnl hV [0, 3] [] rfl (by decide) rfl (by decide))) rfl rfl hl.1 rfl (lv_room (Nat.le_of_ble_eq_true rfl)) dX10_toTree_88 ⟨(Nat.le_of_ble_eq_true rfl), (Nat.le_of_ble_eq_true rfl)⟩) hP hD hS hA hR0 hn [0, 3] [1, 2, 4] rfl rfl (by decide) (by decide) (fun H locs hP hD hS hR => ?_)
              have hP : va_P D vwCl [(a_this_buffer, .inl (cI, 60, .inl c_this_buffer)), (a_this_made, .inl (cI, 60, .inl b35_c_this_made)), (a_this_stackOne, .inl (cI, 64, .inl r_22.2)), (a_this, .inr (9, [.ref a_this_chosen, .ref a_this_factorial, .ref a_this_catalan, .ref a_this_parted, .ref a_this_closed, .int r_88.1, .ref a_this_of, .ref a_this_buffer, .ref a_this_made, .ref a_this_stackOne, .ref a_this_stackOther, .ref a_this_stackLong, .ref a_this_left, .int f_this_entryMany, .ref a_this_entryFamily, .ref a_this_entryOf, .ref a_this_entryRank])), (a_this_of, .inl (cI, 4, .inl r_88.2))] H := hP
              have hD : va_D A [(a_this_buffer, .inl (cI, 60, .inl c_this_buffer)), (a_this_made, .inl (cI, 60, .inl b35_c_this_made)), (a_this_stackOne, .inl (cI, 64, .inl r_22.2)), (a_this, .inr (9, [.ref a_this_chosen, .ref a_this_factorial, .ref a_this_catalan, .ref a_this_parted, .ref a_this_closed, .int r_88.1, .ref a_this_of, .ref a_this_buffer, .ref a_this_made, .ref a_this_stackOne, .ref a_this_stackOther, .ref a_this_stackLong, .ref a_this_left, .int f_this_entryMany, .ref a_this_entryFamily, .ref a_this_entryOf, .ref a_this_entryRank])), (a_this_of, .inl (cI, 4, .inl r_88.2))] := hD
              refine lv_aload_n hx hb dX10_toTree_91 rfl (lv_at hl 0 rfl) ?_
              obtain ⟨r_92, hc_92, h⟩ := rk_bd h
              refine rk_i (wr := [(a_this_made, .inl (cI, 60, .inl b35_c_this_made)), (a_this_stackOne, .inl (cI, 64, .inl r_22.2)), (a_this, .inr (9, [.ref a_this_chosen, .ref a_this_factorial, .ref a_this_catalan, .ref a_this_parted, .ref a_this_closed, .int r_88.1, .ref a_this_of, .ref a_this_buffer, .ref a_this_made, .ref a_this_stackOne, .ref a_this_stackOther, .ref a_this_stackLong, .ref a_this_left, .int f_this_entryMany, .ref a_this_entryFamily, .ref a_this_entryOf, .ref a_this_entryRank])), (a_this_of, .inl (cI, 4, .inl r_88.2))]) (va_runV (C := RX10) (As := []) (rest := []) hF (mtX10_stores l D cI cJ cO PL _ a_this a_this_chosen a_this_factorial a_this_catalan a_this_parted a_this_closed r_88.1 a_this_of a_this_buffer a_this_made a_this_stackOne a_this_stackOther a_this_stackLong a_this_left f_this_entryMany a_this_entryFamily a_this_entryOf a_this_entryRank c_this_buffer b35_c_this_made r_88.2 r_92 hc_92) (cwV 0 htc (rk_gV w_4_123 w_4_125 ws_51 w_1_7 w_4_126) rfl rfl rfl (by decide +kernel) ⟨(Nat.le_of_ble_eq_true rfl), (Nat.le_of_ble_eq_true rfl)⟩) (rk_preV (va_recv hV.1 hP (ci := 9) (q0 := 3) rfl rfl) (rk_preS hP hD hS rk_nilP hn hPL hnl hV [0] [(true, 3), (true, 1), (true, 4)] rfl (by decide) rfl (by decide))) rfl rfl hl.1 rfl (lv_room (Nat.le_of_ble_eq_true rfl)) dX10_toTree_92 ⟨(Nat.le_of_ble_eq_true rfl), (Nat.le_of_ble_eq_true rfl)⟩) hP hD hS hA hR0 hn [0] [1, 2, 3, 4] rfl rfl (by decide) (by decide) (fun H locs hP hD hS hR => ?_)
              have hP : va_P D vwCl [(a_this_made, .inl (cI, 60, .inl b35_c_this_made)), (a_this_stackOne, .inl (cI, 64, .inl r_22.2)), (a_this, .inr (9, [.ref a_this_chosen, .ref a_this_factorial, .ref a_this_catalan, .ref a_this_parted, .ref a_this_closed, .int r_88.1, .ref a_this_of, .ref a_this_buffer, .ref a_this_made, .ref a_this_stackOne, .ref a_this_stackOther, .ref a_this_stackLong, .ref a_this_left, .int f_this_entryMany, .ref a_this_entryFamily, .ref a_this_entryOf, .ref a_this_entryRank])), (a_this_of, .inl (cI, 4, .inl r_88.2)), (a_this_buffer, .inl (cI, 60, .inl r_92.2))] H := hP
              have hD : va_D A [(a_this_made, .inl (cI, 60, .inl b35_c_this_made)), (a_this_stackOne, .inl (cI, 64, .inl r_22.2)), (a_this, .inr (9, [.ref a_this_chosen, .ref a_this_factorial, .ref a_this_catalan, .ref a_this_parted, .ref a_this_closed, .int r_88.1, .ref a_this_of, .ref a_this_buffer, .ref a_this_made, .ref a_this_stackOne, .ref a_this_stackOther, .ref a_this_stackLong, .ref a_this_left, .int f_this_entryMany, .ref a_this_entryFamily, .ref a_this_entryOf, .ref a_this_entryRank])), (a_this_of, .inl (cI, 4, .inl r_88.2)), (a_this_buffer, .inl (cI, 60, .inl r_92.2))] := hD
              refine lv_pop hx hb dX10_toTree_95 rfl ?_
              refine lv_iload_n hx hb dX10_toTree_96 rfl (lv_at hl 1 rfl) ?_
              exact hret (b35_l1, r_88.1, r_92.2, b35_c_this_made, r_88.2, r_22.2) _ _ _ _ h dX10_toTree_97 (hP.sub [2, 4, 0, 3, 1] rfl) (hD.sub [2, 4, 0, 3, 1] (by decide) rfl) hS
            · have h := rk_nif hc4 h
              refine lv_aload_n hx hb dX10_toTree_47 rfl (lv_at hl 0 rfl) ?_
              refine va_get (D := D) (ci := 9) (v := .ref a_this_buffer) (C := RX10) (T := TX10) (N := 17) hx hb htc inX10 hown hV.1 hP 0 rfl rfl 7 (by decide) (htc _ w_4_5) (fun _ h9 => h9) rfl dX10_toTree_48 ?_
              refine lv_iload_n hx hb dX10_toTree_51 rfl (lv_at hl 2 rfl) ?_
              obtain ⟨hg5, h⟩ := rk_gd h
              refine va_iald hx hb hV.1 hP 1 0 rfl rfl hg5 dX10_toTree_52 ?_
              have B76 : ∀ (b76_l1 : Int32) (b76_c_this_made : Nat → Int32), fX10_toTree_B76 b35_l2 (rk_it3 (fX10_toTree_L35 c_this_buffer c_this_of r_22) n35) b76_l1 b76_c_this_made = some r0 → ∀ (H : Heap) (locs : List Loc), va_P D vwCl [(a_this, .inr (9, [.ref a_this_chosen, .ref a_this_factorial, .ref a_this_catalan, .ref a_this_parted, .ref a_this_closed, .int f_this_now, .ref a_this_of, .ref a_this_buffer, .ref a_this_made, .ref a_this_stackOne, .ref a_this_stackOther, .ref a_this_stackLong, .ref a_this_left, .int f_this_entryMany, .ref a_this_entryFamily, .ref a_this_entryOf, .ref a_this_entryRank])), (a_this_buffer, .inl (cI, 60, .inl c_this_buffer)), (a_this_made, .inl (cI, 60, .inl b76_c_this_made)), (a_this_of, .inl (cI, 4, .inl c_this_of)), (a_this_stackOne, .inl (cI, 64, .inl r_22.2))] H → va_D A [(a_this, .inr (9, [.ref a_this_chosen, .ref a_this_factorial, .ref a_this_catalan, .ref a_this_parted, .ref a_this_closed, .int f_this_now, .ref a_this_of, .ref a_this_buffer, .ref a_this_made, .ref a_this_stackOne, .ref a_this_stackOther, .ref a_this_stackLong, .ref a_this_left, .int f_this_entryMany, .ref a_this_entryFamily, .ref a_this_entryOf, .ref a_this_entryRank])), (a_this_buffer, .inl (cI, 60, .inl c_this_buffer)), (a_this_made, .inl (cI, 60, .inl b76_c_this_made)), (a_this_of, .inl (cI, 4, .inl c_this_of)), (a_this_stackOne, .inl (cI, 64, .inl r_22.2))] → va_S A s.heap H locs → ∀ (ls : Array Slot), lv_has ls 3 [(0, .ref a_this), (1, .int b76_l1), (2, .int b35_l2)] → W p l e rmX10_toTree s m args below meth c H locs 0 0 Q (F0 m 76 ls []) := by
                intro b76_l1 b76_c_this_made h H locs hP hD hS ls hl
                unfold fX10_toTree_B76 at h
                refine lv_iinc (v := (b35_l2 + 1)) (lv' := [(2, .int (b35_l2 + 1)), (0, .ref a_this), (1, .int b76_l1)]) hx hb dX10_toTree_76 hl (k := 2) rfl rfl (by decide) rfl (fun ls hl => ?_)
                refine lv_goto (tgt := 35) hx hb dX10_toTree_79 (by decide) ?_
                exact ih35 b76_l1 (b35_l2 + 1) b76_c_this_made h _ _ hP hD hS _ (lv_sub hl [1, 2, 0] rfl)
              refine lv_if_ne (tgt := 76) hx hb dX10_toTree_53 (by decide) (fun hc6 => ?_) (fun hc6 => ?_)
              · have h := rk_if hc6 h
                exact B76 b35_l1 b35_c_this_made h _ _ hP hD hS _ hl
              · have h := rk_nnif hc6 h
                refine lv_aload_n hx hb dX10_toTree_56 rfl (lv_at hl 0 rfl) ?_
                refine va_get (D := D) (ci := 9) (v := .ref a_this_made) (C := RX10) (T := TX10) (N := 17) hx hb htc inX10 hown hV.1 hP 0 rfl rfl 8 (by decide) (htc _ w_4_6) (fun _ h9 => h9) rfl dX10_toTree_57 ?_
                refine lv_iload_n hx hb dX10_toTree_60 rfl (lv_at hl 1 rfl) ?_
                refine lv_aload_n hx hb dX10_toTree_61 rfl (lv_at hl 0 rfl) ?_
                refine lv_iload_n hx hb dX10_toTree_62 rfl (lv_at hl 2 rfl) ?_
                obtain ⟨r_63, hc_63, h⟩ := rk_bd h
                refine rk_i (wr := [(a_this, .inr (9, [.ref a_this_chosen, .ref a_this_factorial, .ref a_this_catalan, .ref a_this_parted, .ref a_this_closed, .int f_this_now, .ref a_this_of, .ref a_this_buffer, .ref a_this_made, .ref a_this_stackOne, .ref a_this_stackOther, .ref a_this_stackLong, .ref a_this_left, .int f_this_entryMany, .ref a_this_entryFamily, .ref a_this_entryOf, .ref a_this_entryRank])), (a_this_buffer, .inl (cI, 60, .inl c_this_buffer)), (a_this_made, .inl (cI, 60, .inl b35_c_this_made)), (a_this_of, .inl (cI, 4, .inl c_this_of)), (a_this_stackOne, .inl (cI, 64, .inl r_22.2))]) (va_runV (C := RX10) (As := [.int b35_l2]) (rest := [.int b35_l1, .ref a_this_made]) hF (mtX10_closeOf l D cI cJ cO PL _ a_this a_this_chosen a_this_factorial a_this_catalan a_this_parted a_this_closed f_this_now a_this_of a_this_buffer a_this_made a_this_stackOne a_this_stackOther a_this_stackLong a_this_left f_this_entryMany a_this_entryFamily a_this_entryOf a_this_entryRank c_this_buffer b35_l2 r_63 hc_63) (cwV 1 htc (rk_gV w_5_70 w_5_72 ws_76 w_1_7 w_5_73) rfl rfl rfl (by decide +kernel) ⟨(Nat.le_of_ble_eq_true rfl), (Nat.le_of_ble_eq_true rfl)⟩) (rk_preV (va_recv hV.1 hP (ci := 9) (q0 := 0) rfl rfl) (rk_preS hP hD hS rk_nilP hn hPL hnl hV [] [(true, 0), (true, 1)] rfl (by decide) rfl (by decide))) rfl rfl hl.1 rfl (lv_room (Nat.le_of_ble_eq_true rfl)) dX10_toTree_63 ⟨(Nat.le_of_ble_eq_true rfl), (Nat.le_of_ble_eq_true rfl)⟩) hP hD hS hA hR0 hn [] [0, 1, 2, 3, 4] rfl rfl (by decide) (by decide) (fun H locs hP hD hS hR => ?_)
                have hP : va_P D vwCl [(a_this, .inr (9, [.ref a_this_chosen, .ref a_this_factorial, .ref a_this_catalan, .ref a_this_parted, .ref a_this_closed, .int f_this_now, .ref a_this_of, .ref a_this_buffer, .ref a_this_made, .ref a_this_stackOne, .ref a_this_stackOther, .ref a_this_stackLong, .ref a_this_left, .int f_this_entryMany, .ref a_this_entryFamily, .ref a_this_entryOf, .ref a_this_entryRank])), (a_this_buffer, .inl (cI, 60, .inl c_this_buffer)), (a_this_made, .inl (cI, 60, .inl b35_c_this_made)), (a_this_of, .inl (cI, 4, .inl c_this_of)), (a_this_stackOne, .inl (cI, 64, .inl r_22.2))] H := hP
                have hD : va_D A [(a_this, .inr (9, [.ref a_this_chosen, .ref a_this_factorial, .ref a_this_catalan, .ref a_this_parted, .ref a_this_closed, .int f_this_now, .ref a_this_of, .ref a_this_buffer, .ref a_this_made, .ref a_this_stackOne, .ref a_this_stackOther, .ref a_this_stackLong, .ref a_this_left, .int f_this_entryMany, .ref a_this_entryFamily, .ref a_this_entryOf, .ref a_this_entryRank])), (a_this_buffer, .inl (cI, 60, .inl c_this_buffer)), (a_this_made, .inl (cI, 60, .inl b35_c_this_made)), (a_this_of, .inl (cI, 4, .inl c_this_of)), (a_this_stackOne, .inl (cI, 64, .inl r_22.2))] := hD
                refine lv_iload_n hx hb dX10_toTree_66 rfl (lv_at hl 2 rfl) ?_
                refine lv_isub hx hb dX10_toTree_67 ?_
                refine lv_iconst (v := 1) hx hb dX10_toTree_68 (by decide) ?_
                refine lv_isub hx hb dX10_toTree_69 ?_
                refine lv_iconst (v := 2) hx hb dX10_toTree_70 (by decide) ?_
                refine lv_idiv hx hb dX10_toTree_71 (by decide) ?_
                obtain ⟨hg7, h⟩ := rk_gd h
                refine va_iast hx hb hV.1 hP hD hS 2 0 rfl rfl hg7 dX10_toTree_72 (fun H locs hP hD hS => ?_)
                have hP : va_P D vwCl [(a_this, .inr (9, [.ref a_this_chosen, .ref a_this_factorial, .ref a_this_catalan, .ref a_this_parted, .ref a_this_closed, .int f_this_now, .ref a_this_of, .ref a_this_buffer, .ref a_this_made, .ref a_this_stackOne, .ref a_this_stackOther, .ref a_this_stackLong, .ref a_this_left, .int f_this_entryMany, .ref a_this_entryFamily, .ref a_this_entryOf, .ref a_this_entryRank])), (a_this_buffer, .inl (cI, 60, .inl c_this_buffer)), (a_this_made, .inl (cI, 60, .inl (upd b35_c_this_made b35_l1.toNatClampNeg (((r_63 - b35_l2) - (1 : Int32)) / (2 : Int32))))), (a_this_of, .inl (cI, 4, .inl c_this_of)), (a_this_stackOne, .inl (cI, 64, .inl r_22.2))] H := hP
                have hD : va_D A [(a_this, .inr (9, [.ref a_this_chosen, .ref a_this_factorial, .ref a_this_catalan, .ref a_this_parted, .ref a_this_closed, .int f_this_now, .ref a_this_of, .ref a_this_buffer, .ref a_this_made, .ref a_this_stackOne, .ref a_this_stackOther, .ref a_this_stackLong, .ref a_this_left, .int f_this_entryMany, .ref a_this_entryFamily, .ref a_this_entryOf, .ref a_this_entryRank])), (a_this_buffer, .inl (cI, 60, .inl c_this_buffer)), (a_this_made, .inl (cI, 60, .inl (upd b35_c_this_made b35_l1.toNatClampNeg (((r_63 - b35_l2) - (1 : Int32)) / (2 : Int32))))), (a_this_of, .inl (cI, 4, .inl c_this_of)), (a_this_stackOne, .inl (cI, 64, .inl r_22.2))] := hD
                refine lv_iinc (v := (b35_l1 + 1)) (lv' := [(1, .int (b35_l1 + 1)), (0, .ref a_this), (2, .int b35_l2)]) hx hb dX10_toTree_73 hl (k := 1) rfl rfl (by decide) rfl (fun ls hl => ?_)
                exact B76 (b35_l1 + 1) (upd b35_c_this_made b35_l1.toNatClampNeg (((r_63 - b35_l2) - (1 : Int32)) / (2 : Int32))) h _ _ hP hD hS _ (lv_sub hl [1, 0, 2] rfl)
        exact L35 FU (0 : Int32) (0 : Int32) c_this_made h _ _ hP hD hS _ (lv_sub hl [2, 1, 0] rfl)
      · have h := rk_nnif hc3 h
        refine lv_bipush (v := (-2)) hx hb dX10_toTree_28 (by decide) ?_
        exact hret ((-2 : Int32), f_this_now, c_this_buffer, c_this_made, c_this_of, r_22.2) _ _ _ _ h dX10_toTree_30 hP hD hS
    · have h := rk_nif hc2 h
      refine lv_bipush (v := (-3)) hx hb dX10_toTree_18 (by decide) ?_
      exact hret ((-3 : Int32), f_this_now, c_this_buffer, c_this_made, c_this_of, c_this_stackOne) _ _ _ _ h dX10_toTree_20 hP hD hS
set_option maxHeartbeats 4000000 in
set_option maxRecDepth 100000 in
theorem mtX10_descents (l : Launch) (D : va_G) (cI cJ cO : ClassId) (PL : va_W) (sz : Nat) (a_this : Nat) (a_this_chosen : Nat) (a_this_factorial : Nat) (a_this_catalan : Nat) (a_this_parted : Nat) (a_this_closed : Nat) (f_this_now : Int32) (a_this_of : Nat) (a_this_buffer : Nat) (a_this_made : Nat) (a_this_stackOne : Nat) (a_this_stackOther : Nat) (a_this_stackLong : Nat) (a_this_left : Nat) (f_this_entryMany : Int32) (a_this_entryFamily : Nat) (a_this_entryOf : Nat) (a_this_entryRank : Nat) (c_this_stackOne : Nat → Int32) (c_this_buffer : Nat → Int32) (c_this_of : Nat → Int32) (r0 : Int32 × (Nat → Int32)) (h : fX10_descents f_this_now c_this_stackOne c_this_buffer c_this_of = some r0) : Met l yX10_descents (rk_w yX10_descents cX10_descents 3 (some .int)) rmX10_descents (va_Pc [.ref a_this] (rk_B D (rk_TY cI cJ cO) [(a_this_stackOne, .inl (cI, 64, .inl c_this_stackOne))] [(a_this, .inr (9, [.ref a_this_chosen, .ref a_this_factorial, .ref a_this_catalan, .ref a_this_parted, .ref a_this_closed, .int f_this_now, .ref a_this_of, .ref a_this_buffer, .ref a_this_made, .ref a_this_stackOne, .ref a_this_stackOther, .ref a_this_stackLong, .ref a_this_left, .int f_this_entryMany, .ref a_this_entryFamily, .ref a_this_entryOf, .ref a_this_entryRank])), (a_this_buffer, .inl (cI, 60, .inl c_this_buffer)), (a_this_of, .inl (cI, 4, .inl c_this_of))] PL sz)) (rk_Qi r0.1 D [(a_this_stackOne, .inl (cI, 64, .inl r0.2))] [(a_this_stackOne, .inl (cI, 64, .inl c_this_stackOne))] sz) 0 0 (va_A [(a_this_stackOne, .inl (cI, 64, .inl c_this_stackOne))] sz) := by
  refine rk_meti h (fun x : Int32 × (Nat → Int32) => x.1) (fun x => [(a_this_stackOne, .inl (cI, 64, .inl x.2))]) (by decide) (Nat.le_of_ble_eq_true rfl) ?_
  intro p e s m args below meth c A ls Q hret hname hF hP hD hA hV hR0 hn hPL hnl hl h hS
  have hx := hF.1
  have hb := hF.2.1
  have hml := hF.2.2.1
  have hown : s.vm.findClass RX10 = some m.cls := hF.2.2.2.1
  have htc := hF.2.2.2.2
  have hP : va_P D vwCl [(a_this_stackOne, .inl (cI, 64, .inl c_this_stackOne))] s.heap := hP
  have hD : va_D A [(a_this_stackOne, .inl (cI, 64, .inl c_this_stackOne))] := hD
  have hR0 : va_P D vwCl [(a_this, .inr (9, [.ref a_this_chosen, .ref a_this_factorial, .ref a_this_catalan, .ref a_this_parted, .ref a_this_closed, .int f_this_now, .ref a_this_of, .ref a_this_buffer, .ref a_this_made, .ref a_this_stackOne, .ref a_this_stackOther, .ref a_this_stackLong, .ref a_this_left, .int f_this_entryMany, .ref a_this_entryFamily, .ref a_this_entryOf, .ref a_this_entryRank])), (a_this_buffer, .inl (cI, 60, .inl c_this_buffer)), (a_this_of, .inl (cI, 4, .inl c_this_of))] s.heap := hR0
  have hR := hR0
  have hl : lv_has ls 3 [(0, .ref a_this)] := hl
  unfold fX10_descents at h
  refine lv_aload_n hx hb dX10_descents_0 rfl (lv_at hl 0 rfl) ?_
  obtain ⟨r_1, hc_1, h⟩ := rk_bd h
  refine rk_i (wr := []) (va_runV (C := RX10) (As := []) (rest := []) hF (mtX10_isGood l D cI cJ cO PL _ a_this a_this_chosen a_this_factorial a_this_catalan a_this_parted a_this_closed f_this_now a_this_of a_this_buffer a_this_made a_this_stackOne a_this_stackOther a_this_stackLong a_this_left f_this_entryMany a_this_entryFamily a_this_entryOf a_this_entryRank c_this_stackOne c_this_buffer c_this_of r_1 hc_1) (cwV 0 htc (rk_gV w_4_189 w_4_191 ws_54 w_1_7 w_4_192) rfl rfl rfl (by decide +kernel) ⟨(Nat.le_of_ble_eq_true rfl), (Nat.le_of_ble_eq_true rfl)⟩) (rk_preV (va_recv hV.1 hR (ci := 9) (q0 := 0) rfl rfl) (rk_preS hP hD hS hR hn hPL hnl hV [0] [(false, 0), (false, 1), (false, 2)] rfl (by decide) rfl (by decide))) rfl rfl hl.1 rfl (lv_room (Nat.le_of_ble_eq_true rfl)) dX10_descents_1 ⟨(Nat.le_of_ble_eq_true rfl), (Nat.le_of_ble_eq_true rfl)⟩) hP hD hS hA hR0 hn [0] [] rfl rfl (by decide) (by decide) (fun H locs hP hD hS hR => ?_)
  have hP : va_P D vwCl [(a_this_stackOne, .inl (cI, 64, .inl r_1.2))] H := hP
  have hD : va_D A [(a_this_stackOne, .inl (cI, 64, .inl r_1.2))] := hD
  refine lv_if_ne (tgt := 10) hx hb dX10_descents_4 (by decide) (fun hc1 => ?_) (fun hc1 => ?_)
  · have h := rk_if hc1 h
    refine lv_iconst (v := 0) hx hb dX10_descents_10 (by decide) ?_
    refine lv_istore_n (lv' := [(1, .int (0 : Int32)), (0, .ref a_this)]) hx hb dX10_descents_11 rfl hl (by decide) rfl (fun ls hl => ?_)
    refine lv_iconst (v := 1) hx hb dX10_descents_12 (by decide) ?_
    refine lv_istore_n (lv' := [(2, .int (1 : Int32)), (1, .int (0 : Int32)), (0, .ref a_this)]) hx hb dX10_descents_13 rfl hl (by decide) rfl (fun ls hl => ?_)
    have L14 : ∀ (n14 : Nat) (b14_l1 : Int32) (b14_l2 : Int32), rk_it2 (fX10_descents_L14 f_this_now c_this_buffer c_this_of r_1) n14 b14_l1 b14_l2 = some r0 → ∀ (H : Heap) (locs : List Loc), va_P D vwCl [(a_this_stackOne, .inl (cI, 64, .inl r_1.2))] H → va_D A [(a_this_stackOne, .inl (cI, 64, .inl r_1.2))] → va_S A s.heap H locs → ∀ (ls : Array Slot), lv_has ls 3 [(0, .ref a_this), (1, .int b14_l1), (2, .int b14_l2)] → W p l e rmX10_descents s m args below meth c H locs 0 0 Q (F0 m 14 ls []) := by
      intro n14
      induction n14 with
      | zero => intro b14_l1 b14_l2 h; exact rk_no h
      | succ n14 ih14 =>
        intro b14_l1 b14_l2 h H locs hP hD hS ls hl
        have h : fX10_descents_L14 f_this_now c_this_buffer c_this_of r_1 (rk_it2 (fX10_descents_L14 f_this_now c_this_buffer c_this_of r_1) n14) b14_l1 b14_l2 = some r0 := h
        unfold fX10_descents_L14 at h
        have hR := rk_keep hR0 hn hS
        refine lv_iload_n hx hb dX10_descents_14 rfl (lv_at hl 2 rfl) ?_
        refine lv_aload_n hx hb dX10_descents_15 rfl (lv_at hl 0 rfl) ?_
        obtain ⟨r_16, hc_16, h⟩ := rk_bd h
        refine rk_i (wr := [(a_this_stackOne, .inl (cI, 64, .inl r_1.2))]) (va_runV (C := RX10) (As := []) (rest := [.int b14_l2]) hF (mtX10_longNow l D cI cJ cO PL _ a_this a_this_chosen a_this_factorial a_this_catalan a_this_parted a_this_closed f_this_now a_this_of a_this_buffer a_this_made a_this_stackOne a_this_stackOther a_this_stackLong a_this_left f_this_entryMany a_this_entryFamily a_this_entryOf a_this_entryRank c_this_of r_16 hc_16) (cwV 0 htc (rk_gV w_4_111 w_4_113 ws_48 w_1_7 w_4_114) rfl rfl rfl (by decide +kernel) ⟨(Nat.le_of_ble_eq_true rfl), (Nat.le_of_ble_eq_true rfl)⟩) (rk_preV (va_recv hV.1 hR (ci := 9) (q0 := 0) rfl rfl) (rk_preS hP hD hS hR hn hPL hnl hV [] [(false, 0), (false, 2)] rfl (by decide) rfl (by decide))) rfl rfl hl.1 rfl (lv_room (Nat.le_of_ble_eq_true rfl)) dX10_descents_16 ⟨(Nat.le_of_ble_eq_true rfl), (Nat.le_of_ble_eq_true rfl)⟩) hP hD hS hA hR0 hn [] [0] rfl rfl (by decide) (by decide) (fun H locs hP hD hS hR => ?_)
        have hP : va_P D vwCl [(a_this_stackOne, .inl (cI, 64, .inl r_1.2))] H := hP
        have hD : va_D A [(a_this_stackOne, .inl (cI, 64, .inl r_1.2))] := hD
        refine lv_icmp_ge (tgt := 53) hx hb dX10_descents_19 (by decide) (fun hc2 => ?_) (fun hc2 => ?_)
        · have h := rk_if hc2 h
          refine lv_iload_n hx hb dX10_descents_53 rfl (lv_at hl 1 rfl) ?_
          exact hret (b14_l1, r_1.2) _ _ _ _ h dX10_descents_54 hP hD hS
        · have h := rk_nif hc2 h
          refine lv_iload_n hx hb dX10_descents_22 rfl (lv_at hl 1 rfl) ?_
          refine lv_aload_n hx hb dX10_descents_23 rfl (lv_at hl 0 rfl) ?_
          refine va_get (D := D) (ci := 9) (v := .ref a_this_buffer) (C := RX10) (T := TX10) (N := 17) hx hb htc inX10 hown hV.1 hR 0 rfl rfl 7 (by decide) (htc _ w_4_5) (fun _ h9 => h9) rfl dX10_descents_24 ?_
          refine lv_iload_n hx hb dX10_descents_27 rfl (lv_at hl 2 rfl) ?_
          obtain ⟨hg3, h⟩ := rk_gd h
          refine va_iald hx hb hV.1 hR 1 0 rfl rfl hg3 dX10_descents_28 ?_
          refine lv_aload_n hx hb dX10_descents_29 rfl (lv_at hl 0 rfl) ?_
          refine va_get (D := D) (ci := 9) (v := .ref a_this_buffer) (C := RX10) (T := TX10) (N := 17) hx hb htc inX10 hown hV.1 hR 0 rfl rfl 7 (by decide) (htc _ w_4_5) (fun _ h9 => h9) rfl dX10_descents_30 ?_
          refine lv_iload_n hx hb dX10_descents_33 rfl (lv_at hl 2 rfl) ?_
          refine lv_iconst (v := 1) hx hb dX10_descents_34 (by decide) ?_
          refine lv_isub hx hb dX10_descents_35 ?_
          obtain ⟨hg4, h⟩ := rk_gd h
          refine va_iald hx hb hV.1 hR 1 0 rfl rfl hg4 dX10_descents_36 ?_
          have B45 : ∀ (b45_t1 : Int32), fX10_descents_B45 b14_l1 b14_l2 (rk_it2 (fX10_descents_L14 f_this_now c_this_buffer c_this_of r_1) n14) b45_t1 = some r0 → ∀ (H : Heap) (locs : List Loc), va_P D vwCl [(a_this_stackOne, .inl (cI, 64, .inl r_1.2))] H → va_D A [(a_this_stackOne, .inl (cI, 64, .inl r_1.2))] → va_S A s.heap H locs → ∀ (ls : Array Slot), lv_has ls 3 [(0, .ref a_this), (2, .int b14_l2)] → W p l e rmX10_descents s m args below meth c H locs 0 0 Q (F0 m 45 ls [.int b45_t1, .int b14_l1]) := by
            intro b45_t1 h H locs hP hD hS ls hl
            unfold fX10_descents_B45 at h
            have hR := rk_keep hR0 hn hS
            refine lv_iadd hx hb dX10_descents_45 ?_
            refine lv_istore_n (lv' := [(1, .int (b14_l1 + b45_t1)), (0, .ref a_this), (2, .int b14_l2)]) hx hb dX10_descents_46 rfl hl (by decide) rfl (fun ls hl => ?_)
            refine lv_iinc (v := (b14_l2 + 1)) (lv' := [(2, .int (b14_l2 + 1)), (1, .int (b14_l1 + b45_t1)), (0, .ref a_this)]) hx hb dX10_descents_47 hl (k := 2) rfl rfl (by decide) rfl (fun ls hl => ?_)
            refine lv_goto (tgt := 14) hx hb dX10_descents_50 (by decide) ?_
            exact ih14 (b14_l1 + b45_t1) (b14_l2 + 1) h _ _ hP hD hS _ (lv_sub hl [2, 1, 0] rfl)
          refine lv_icmp_ge (tgt := 44) hx hb dX10_descents_37 (by decide) (fun hc5 => ?_) (fun hc5 => ?_)
          · have h := rk_if hc5 h
            refine lv_iconst (v := 0) hx hb dX10_descents_44 (by decide) ?_
            exact B45 (0 : Int32) h _ _ hP hD hS _ (lv_sub hl [0, 2] rfl)
          · have h := rk_nif hc5 h
            refine lv_iconst (v := 1) hx hb dX10_descents_40 (by decide) ?_
            refine lv_goto (tgt := 45) hx hb dX10_descents_41 (by decide) ?_
            exact B45 (1 : Int32) h _ _ hP hD hS _ (lv_sub hl [0, 2] rfl)
    exact L14 FU (0 : Int32) (1 : Int32) h _ _ hP hD hS _ (lv_sub hl [2, 1, 0] rfl)
  · have h := rk_nnif hc1 h
    refine lv_bipush (v := (-2)) hx hb dX10_descents_7 (by decide) ?_
    exact hret ((-2 : Int32), r_1.2) _ _ _ _ h dX10_descents_9 hP hD hS
