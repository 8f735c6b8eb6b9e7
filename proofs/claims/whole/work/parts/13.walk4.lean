set_option maxHeartbeats 4000000 in
set_option maxRecDepth 100000 in
theorem mtX7_spell (l : Launch) (D : va_G) (cI cJ cO : ClassId) (PL : va_W) (sz : Nat) (a_p2 : Nat) (c_p2 : Nat → Int32) (a_p0 : Nat) (c_p0 : Nat → Int32) (a_p3 : Nat) (a_p3_binomials : Nat) (a_p3_partitionCounts : Nat) (a_p3_treeCounts : Nat) (a_p3_sizes : Nat) (a_p3_starts : Nat) (a_p3_ranks : Nat) (a_p3_letters : Nat) (c_p3_sizes : Nat → Int32) (c_p3_starts : Nat → Int32) (v_p1 : Int32) (r0 : (Nat → Int32) × (Nat → Int32) × (Nat → Int32)) (h : fX7_spell c_p2 c_p0 c_p3_sizes c_p3_starts v_p1 = some r0) : Met l yX7_spell (rk_w yX7_spell cX7_spell 9 none) rmX7_spell (va_Pc [.ref a_p0, .int v_p1, .ref a_p2, .ref a_p3] (rk_B D (rk_TY cI cJ cO) [(a_p2, .inl (cI, 60, .inl c_p2)), (a_p3_sizes, .inl (cI, 60, .inl c_p3_sizes)), (a_p3_starts, .inl (cI, 60, .inl c_p3_starts))] [(a_p0, .inl (cI, 60, .inl c_p0)), (a_p3, .inr (2, [.ref a_p3_binomials, .ref a_p3_partitionCounts, .ref a_p3_treeCounts, .ref a_p3_sizes, .ref a_p3_starts, .ref a_p3_ranks, .ref a_p3_letters]))] PL sz)) (rk_Qv D [(a_p2, .inl (cI, 60, .inl r0.1)), (a_p3_sizes, .inl (cI, 60, .inl r0.2.1)), (a_p3_starts, .inl (cI, 60, .inl r0.2.2))] [(a_p2, .inl (cI, 60, .inl c_p2)), (a_p3_sizes, .inl (cI, 60, .inl c_p3_sizes)), (a_p3_starts, .inl (cI, 60, .inl c_p3_starts))] sz) 0 0 (va_A [(a_p2, .inl (cI, 60, .inl c_p2)), (a_p3_sizes, .inl (cI, 60, .inl c_p3_sizes)), (a_p3_starts, .inl (cI, 60, .inl c_p3_starts))] sz) := by
  refine rk_metv h (fun x => [(a_p2, .inl (cI, 60, .inl x.1)), (a_p3_sizes, .inl (cI, 60, .inl x.2.1)), (a_p3_starts, .inl (cI, 60, .inl x.2.2))]) (by decide) (Nat.le_of_ble_eq_true rfl) ?_
  intro p e s m args below meth c A ls Q hret hname hF hP hD hA hV hR0 hn hPL hnl hl h hS
  have hx := hF.1
  have hb := hF.2.1
  have hml := hF.2.2.1
  have hown : s.vm.findClass RX7 = some m.cls := hF.2.2.2.1
  have htc := hF.2.2.2.2
  have hP : va_P D vwCl [(a_p2, .inl (cI, 60, .inl c_p2)), (a_p3_sizes, .inl (cI, 60, .inl c_p3_sizes)), (a_p3_starts, .inl (cI, 60, .inl c_p3_starts))] s.heap := hP
  have hD : va_D A [(a_p2, .inl (cI, 60, .inl c_p2)), (a_p3_sizes, .inl (cI, 60, .inl c_p3_sizes)), (a_p3_starts, .inl (cI, 60, .inl c_p3_starts))] := hD
  have hR0 : va_P D vwCl [(a_p0, .inl (cI, 60, .inl c_p0)), (a_p3, .inr (2, [.ref a_p3_binomials, .ref a_p3_partitionCounts, .ref a_p3_treeCounts, .ref a_p3_sizes, .ref a_p3_starts, .ref a_p3_ranks, .ref a_p3_letters]))] s.heap := hR0
  have hR := hR0
  have hl : lv_has ls 9 [(0, .ref a_p0), (1, .int v_p1), (2, .ref a_p2), (3, .ref a_p3)] := hl
  unfold fX7_spell at h
  refine lv_aload_n hx hb dX7_spell_0 rfl (lv_at hl 0 rfl) ?_
  refine lv_iload_n hx hb dX7_spell_1 rfl (lv_at hl 1 rfl) ?_
  refine lv_aload_n hx hb dX7_spell_2 rfl (lv_at hl 3 rfl) ?_
  refine va_getN (D := D) (ci := 2) (v := .ref a_p3_sizes) (C := RX2) (T := TX2) (N := 7) hx hb htc inX2 hown hV.1 hR 1 rfl rfl 3 (by decide) (va_Nw.use rfl (hV.2.1 _ nw_1_60)) (fun _ h9 => h9) rfl dX7_spell_3 ?_
  obtain ⟨r_6, hc_6, h⟩ := rk_bd h
  refine rk_i (wr := [(a_p2, .inl (cI, 60, .inl c_p2)), (a_p3_starts, .inl (cI, 60, .inl c_p3_starts))]) (va_runS (As := [.ref a_p0, .int v_p1, .ref a_p3_sizes]) (rest := []) hF (mtX7_measure l D cI cJ cO PL _ a_p3_sizes c_p3_sizes a_p0 c_p0 v_p1 r_6 hc_6) (va_cwS 3 htc (rk_gVS w_3_3 w_3_4 w_1_10 w_3_5) rfl rfl rfl (by decide +kernel) ⟨(Nat.le_of_ble_eq_true rfl), (Nat.le_of_ble_eq_true rfl)⟩) (rk_preS hP hD hS hR hn hPL hnl hV [1] [(false, 0)] rfl (by decide) rfl (by decide)) rfl rfl hl.1 rfl (lv_room (Nat.le_of_ble_eq_true rfl)) dX7_spell_6 ⟨(Nat.le_of_ble_eq_true rfl), (Nat.le_of_ble_eq_true rfl)⟩) hP hD hS hA hR0 hn [1] [0, 2] rfl rfl (by decide) (by decide) (fun H locs hP hD hS hR => ?_)
  have hP : va_P D vwCl [(a_p2, .inl (cI, 60, .inl c_p2)), (a_p3_starts, .inl (cI, 60, .inl c_p3_starts)), (a_p3_sizes, .inl (cI, 60, .inl r_6.2))] H := hP
  have hD : va_D A [(a_p2, .inl (cI, 60, .inl c_p2)), (a_p3_starts, .inl (cI, 60, .inl c_p3_starts)), (a_p3_sizes, .inl (cI, 60, .inl r_6.2))] := hD
  refine lv_pop hx hb dX7_spell_9 rfl ?_
  refine lv_aload_n hx hb dX7_spell_10 rfl (lv_at hl 3 rfl) ?_
  refine va_getN (D := D) (ci := 2) (v := .ref a_p3_starts) (C := RX2) (T := TX2) (N := 7) hx hb htc inX2 hown hV.1 hR 1 rfl rfl 4 (by decide) (va_Nw.use rfl (hV.2.1 _ nw_1_62)) (fun _ h9 => h9) rfl dX7_spell_11 ?_
  refine lv_iconst (v := 0) hx hb dX7_spell_14 (by decide) ?_
  refine lv_iconst (v := 0) hx hb dX7_spell_15 (by decide) ?_
  obtain ⟨r_16, hc_16, h⟩ := rk_bd h
  refine rk_v (wr := [(a_p2, .inl (cI, 60, .inl c_p2)), (a_p3_sizes, .inl (cI, 60, .inl r_6.2))]) (va_runSN (As := [.ref a_p3_starts, .int (0 : Int32), .int (0 : Int32)]) (rest := []) hF (mtX9_set l D cI cJ cO PL _ a_p3_starts 60 c_p3_starts (0 : Int32) (0 : Int32) r_16 hc_16) ⟨va_cnB 3 htc (rk_gw w_1_46) rfl rfl rfl (hV.2.1 _ nw_2_16) (htc _ w_1_1) (by decide +kernel) ⟨(Nat.le_of_ble_eq_true rfl), (Nat.le_of_ble_eq_true rfl)⟩, htc _ w_1_45, trivial⟩ (rk_preS hP hD hS hR hn hPL hnl hV [1] [] rfl (by decide) rfl (by decide)) rfl rfl hl.1 rfl (lv_room (Nat.le_of_ble_eq_true rfl)) dX7_spell_16 ⟨(Nat.le_of_ble_eq_true rfl), (Nat.le_of_ble_eq_true rfl)⟩) hP hD hS hA hR0 hn [1] [0, 2] rfl rfl (by decide) (by decide) (fun H locs hP hD hS hR => ?_)
  have hP : va_P D vwCl [(a_p2, .inl (cI, 60, .inl c_p2)), (a_p3_sizes, .inl (cI, 60, .inl r_6.2)), (a_p3_starts, .inl (cI, 60, .inl r_16))] H := hP
  have hD : va_D A [(a_p2, .inl (cI, 60, .inl c_p2)), (a_p3_sizes, .inl (cI, 60, .inl r_6.2)), (a_p3_starts, .inl (cI, 60, .inl r_16))] := hD
  refine lv_iconst (v := 0) hx hb dX7_spell_19 (by decide) ?_
  refine lv_istore (lv' := [(4, .int (0 : Int32)), (0, .ref a_p0), (1, .int v_p1), (2, .ref a_p2), (3, .ref a_p3)]) hx hb dX7_spell_20 hl (by decide) rfl (fun ls hl => ?_)
  have L22 : ∀ (n22 : Nat) (b22_l4 : Int32) (b22_c_p2 : Nat → Int32) (b22_c_p3_starts : Nat → Int32), rk_it3 (fX7_spell_L22 c_p0 v_p1 r_6) n22 b22_l4 b22_c_p2 b22_c_p3_starts = some r0 → ∀ (H : Heap) (locs : List Loc), va_P D vwCl [(a_p2, .inl (cI, 60, .inl b22_c_p2)), (a_p3_sizes, .inl (cI, 60, .inl r_6.2)), (a_p3_starts, .inl (cI, 60, .inl b22_c_p3_starts))] H → va_D A [(a_p2, .inl (cI, 60, .inl b22_c_p2)), (a_p3_sizes, .inl (cI, 60, .inl r_6.2)), (a_p3_starts, .inl (cI, 60, .inl b22_c_p3_starts))] → va_S A s.heap H locs → ∀ (ls : Array Slot), lv_has ls 9 [(0, .ref a_p0), (1, .int v_p1), (2, .ref a_p2), (3, .ref a_p3), (4, .int b22_l4)] → W p l e rmX7_spell s m args below meth c H locs 0 0 Q (F0 m 22 ls []) := by
    intro n22
    induction n22 with
    | zero => intro b22_l4 b22_c_p2 b22_c_p3_starts h; exact rk_no h
    | succ n22 ih22 =>
      intro b22_l4 b22_c_p2 b22_c_p3_starts h H locs hP hD hS ls hl
      have h : fX7_spell_L22 c_p0 v_p1 r_6 (rk_it3 (fX7_spell_L22 c_p0 v_p1 r_6) n22) b22_l4 b22_c_p2 b22_c_p3_starts = some r0 := h
      unfold fX7_spell_L22 at h
      have hR := rk_keep hR0 hn hS
      refine lv_iload hx hb dX7_spell_22 (lv_at hl 4 rfl) ?_
      refine lv_iload_n hx hb dX7_spell_24 rfl (lv_at hl 1 rfl) ?_
      refine lv_icmp_ge (tgt := 137) hx hb dX7_spell_25 (by decide) (fun hc1 => ?_) (fun hc1 => ?_)
      · have h := rk_if hc1 h
        exact hret (b22_c_p2, r_6.2, b22_c_p3_starts) _ _ _ _ h dX7_spell_137 hP hD hS
      · have h := rk_nif hc1 h
        refine lv_aload_n hx hb dX7_spell_28 rfl (lv_at hl 0 rfl) ?_
        refine lv_iload hx hb dX7_spell_29 (lv_at hl 4 rfl) ?_
        obtain ⟨r_31, hc_31, h⟩ := rk_bd h
        refine rk_i (wr := [(a_p2, .inl (cI, 60, .inl b22_c_p2)), (a_p3_sizes, .inl (cI, 60, .inl r_6.2)), (a_p3_starts, .inl (cI, 60, .inl b22_c_p3_starts))]) (va_runSN (As := [.ref a_p0, .int b22_l4]) (rest := []) hF (mtX9_at l D cI cJ cO PL _ a_p0 60 c_p0 b22_l4 r_31 hc_31) ⟨va_cnB 2 htc (rk_gw w_1_52) rfl rfl rfl (hV.2.1 _ nw_2_18) (htc _ w_1_1) (by decide +kernel) ⟨(Nat.le_of_ble_eq_true rfl), (Nat.le_of_ble_eq_true rfl)⟩, htc _ w_1_51, trivial⟩ (rk_preS hP hD hS hR hn hPL hnl hV [] [(false, 0)] rfl (by decide) rfl (by decide)) rfl rfl hl.1 rfl (lv_room (Nat.le_of_ble_eq_true rfl)) dX7_spell_31 ⟨(Nat.le_of_ble_eq_true rfl), (Nat.le_of_ble_eq_true rfl)⟩) hP hD hS hA hR0 hn [] [0, 1, 2] rfl rfl (by decide) (by decide) (fun H locs hP hD hS hR => ?_)
        have hP : va_P D vwCl [(a_p2, .inl (cI, 60, .inl b22_c_p2)), (a_p3_sizes, .inl (cI, 60, .inl r_6.2)), (a_p3_starts, .inl (cI, 60, .inl b22_c_p3_starts))] H := hP
        have hD : va_D A [(a_p2, .inl (cI, 60, .inl b22_c_p2)), (a_p3_sizes, .inl (cI, 60, .inl r_6.2)), (a_p3_starts, .inl (cI, 60, .inl b22_c_p3_starts))] := hD
        refine lv_istore (lv' := [(5, .int r_31), (0, .ref a_p0), (1, .int v_p1), (2, .ref a_p2), (3, .ref a_p3), (4, .int b22_l4)]) hx hb dX7_spell_34 hl (by decide) rfl (fun ls hl => ?_)
        refine lv_aload_n hx hb dX7_spell_36 rfl (lv_at hl 4 rfl) ?_
        refine va_getN (D := D) (ci := 2) (v := .ref a_p3_sizes) (C := RX2) (T := TX2) (N := 7) hx hb htc inX2 hown hV.1 hR 1 rfl rfl 3 (by decide) (va_Nw.use rfl (hV.2.1 _ nw_1_60)) (fun _ h9 => h9) rfl dX7_spell_37 ?_
        refine lv_iload hx hb dX7_spell_40 (lv_at hl 5 rfl) ?_
        obtain ⟨r_42, hc_42, h⟩ := rk_bd h
        refine rk_i (wr := [(a_p2, .inl (cI, 60, .inl b22_c_p2)), (a_p3_sizes, .inl (cI, 60, .inl r_6.2)), (a_p3_starts, .inl (cI, 60, .inl b22_c_p3_starts))]) (va_runSN (As := [.ref a_p3_sizes, .int b22_l4]) (rest := []) hF (mtX9_at l D cI cJ cO PL _ a_p3_sizes 60 r_6.2 b22_l4 r_42 hc_42) ⟨va_cnB 2 htc (rk_gw w_1_52) rfl rfl rfl (hV.2.1 _ nw_2_18) (htc _ w_1_1) (by decide +kernel) ⟨(Nat.le_of_ble_eq_true rfl), (Nat.le_of_ble_eq_true rfl)⟩, htc _ w_1_51, trivial⟩ (rk_preS hP hD hS hR hn hPL hnl hV [] [(true, 1)] rfl (by decide) rfl (by decide)) rfl rfl hl.1 rfl (lv_room (Nat.le_of_ble_eq_true rfl)) dX7_spell_42 ⟨(Nat.le_of_ble_eq_true rfl), (Nat.le_of_ble_eq_true rfl)⟩) hP hD hS hA hR0 hn [] [0, 1, 2] rfl rfl (by decide) (by decide) (fun H locs hP hD hS hR => ?_)
        have hP : va_P D vwCl [(a_p2, .inl (cI, 60, .inl b22_c_p2)), (a_p3_sizes, .inl (cI, 60, .inl r_6.2)), (a_p3_starts, .inl (cI, 60, .inl b22_c_p3_starts))] H := hP
        have hD : va_D A [(a_p2, .inl (cI, 60, .inl b22_c_p2)), (a_p3_sizes, .inl (cI, 60, .inl r_6.2)), (a_p3_starts, .inl (cI, 60, .inl b22_c_p3_starts))] := hD
        refine lv_iconst (v := 1) hx hb dX7_spell_45 (by decide) ?_
        refine lv_isub hx hb dX7_spell_46 ?_
        refine lv_iload hx hb dX7_spell_47 (lv_at hl 0 rfl) ?_
        refine lv_isub hx hb dX7_spell_49 ?_
        refine lv_istore (lv' := [(6, .int ((r_42 - (1 : Int32)) - r_31)), (5, .int r_31), (0, .ref a_p0), (1, .int v_p1), (2, .ref a_p2), (3, .ref a_p3), (4, .int b22_l4)]) hx hb dX7_spell_50 hl (by decide) rfl (fun ls hl => ?_)
        refine lv_aload_n hx hb dX7_spell_52 rfl (lv_at hl 5 rfl) ?_
        refine va_getN (D := D) (ci := 2) (v := .ref a_p3_starts) (C := RX2) (T := TX2) (N := 7) hx hb htc inX2 hown hV.1 hR 1 rfl rfl 4 (by decide) (va_Nw.use rfl (hV.2.1 _ nw_1_62)) (fun _ h9 => h9) rfl dX7_spell_53 ?_
        refine lv_iload hx hb dX7_spell_56 (lv_at hl 6 rfl) ?_
        obtain ⟨r_58, hc_58, h⟩ := rk_bd h
        refine rk_i (wr := [(a_p2, .inl (cI, 60, .inl b22_c_p2)), (a_p3_sizes, .inl (cI, 60, .inl r_6.2)), (a_p3_starts, .inl (cI, 60, .inl b22_c_p3_starts))]) (va_runSN (As := [.ref a_p3_starts, .int b22_l4]) (rest := []) hF (mtX9_at l D cI cJ cO PL _ a_p3_starts 60 b22_c_p3_starts b22_l4 r_58 hc_58) ⟨va_cnB 2 htc (rk_gw w_1_52) rfl rfl rfl (hV.2.1 _ nw_2_18) (htc _ w_1_1) (by decide +kernel) ⟨(Nat.le_of_ble_eq_true rfl), (Nat.le_of_ble_eq_true rfl)⟩, htc _ w_1_51, trivial⟩ (rk_preS hP hD hS hR hn hPL hnl hV [] [(true, 2)] rfl (by decide) rfl (by decide)) rfl rfl hl.1 rfl (lv_room (Nat.le_of_ble_eq_true rfl)) dX7_spell_58 ⟨(Nat.le_of_ble_eq_true rfl), (Nat.le_of_ble_eq_true rfl)⟩) hP hD hS hA hR0 hn [] [0, 1, 2] rfl rfl (by decide) (by decide) (fun H locs hP hD hS hR => ?_)
        have hP : va_P D vwCl [(a_p2, .inl (cI, 60, .inl b22_c_p2)), (a_p3_sizes, .inl (cI, 60, .inl r_6.2)), (a_p3_starts, .inl (cI, 60, .inl b22_c_p3_starts))] H := hP
        have hD : va_D A [(a_p2, .inl (cI, 60, .inl b22_c_p2)), (a_p3_sizes, .inl (cI, 60, .inl r_6.2)), (a_p3_starts, .inl (cI, 60, .inl b22_c_p3_starts))] := hD
        refine lv_istore (lv' := [(7, .int r_58), (6, .int ((r_42 - (1 : Int32)) - r_31)), (5, .int r_31), (0, .ref a_p0), (1, .int v_p1), (2, .ref a_p2), (3, .ref a_p3), (4, .int b22_l4)]) hx hb dX7_spell_61 hl (by decide) rfl (fun ls hl => ?_)
        refine lv_iload hx hb dX7_spell_63 (lv_at hl 0 rfl) ?_
        refine lv_iconst (v := 1) hx hb dX7_spell_65 (by decide) ?_
        refine lv_iadd hx hb dX7_spell_66 ?_
        refine lv_iconst (v := 2) hx hb dX7_spell_67 (by decide) ?_
        refine lv_iload hx hb dX7_spell_68 (lv_at hl 2 rfl) ?_
        refine lv_imul hx hb dX7_spell_70 ?_
        refine lv_iadd hx hb dX7_spell_71 ?_
        refine lv_istore (lv' := [(8, .int ((r_58 + (1 : Int32)) + ((2 : Int32) * r_31))), (7, .int r_58), (6, .int ((r_42 - (1 : Int32)) - r_31)), (5, .int r_31), (0, .ref a_p0), (1, .int v_p1), (2, .ref a_p2), (3, .ref a_p3), (4, .int b22_l4)]) hx hb dX7_spell_72 hl (by decide) rfl (fun ls hl => ?_)
        refine lv_aload_n hx hb dX7_spell_74 rfl (lv_at hl 6 rfl) ?_
        refine lv_iload hx hb dX7_spell_75 (lv_at hl 1 rfl) ?_
        refine lv_iconst (v := 0) hx hb dX7_spell_77 (by decide) ?_
        obtain ⟨r_78, hc_78, h⟩ := rk_bd h
        refine rk_v (wr := [(a_p3_sizes, .inl (cI, 60, .inl r_6.2)), (a_p3_starts, .inl (cI, 60, .inl b22_c_p3_starts))]) (va_runSN (As := [.ref a_p2, .int r_58, .int (0 : Int32)]) (rest := []) hF (mtX9_set l D cI cJ cO PL _ a_p2 60 b22_c_p2 r_58 (0 : Int32) r_78 hc_78) ⟨va_cnB 3 htc (rk_gw w_1_46) rfl rfl rfl (hV.2.1 _ nw_2_16) (htc _ w_1_1) (by decide +kernel) ⟨(Nat.le_of_ble_eq_true rfl), (Nat.le_of_ble_eq_true rfl)⟩, htc _ w_1_45, trivial⟩ (rk_preS hP hD hS hR hn hPL hnl hV [0] [] rfl (by decide) rfl (by decide)) rfl rfl hl.1 rfl (lv_room (Nat.le_of_ble_eq_true rfl)) dX7_spell_78 ⟨(Nat.le_of_ble_eq_true rfl), (Nat.le_of_ble_eq_true rfl)⟩) hP hD hS hA hR0 hn [0] [1, 2] rfl rfl (by decide) (by decide) (fun H locs hP hD hS hR => ?_)
        have hP : va_P D vwCl [(a_p3_sizes, .inl (cI, 60, .inl r_6.2)), (a_p3_starts, .inl (cI, 60, .inl b22_c_p3_starts)), (a_p2, .inl (cI, 60, .inl r_78))] H := hP
        have hD : va_D A [(a_p3_sizes, .inl (cI, 60, .inl r_6.2)), (a_p3_starts, .inl (cI, 60, .inl b22_c_p3_starts)), (a_p2, .inl (cI, 60, .inl r_78))] := hD
        refine lv_aload_n hx hb dX7_spell_81 rfl (lv_at hl 6 rfl) ?_
        refine lv_iload hx hb dX7_spell_82 (lv_at hl 0 rfl) ?_
        refine lv_iconst (v := 1) hx hb dX7_spell_84 (by decide) ?_
        obtain ⟨r_85, hc_85, h⟩ := rk_bd h
        refine rk_v (wr := [(a_p3_sizes, .inl (cI, 60, .inl r_6.2)), (a_p3_starts, .inl (cI, 60, .inl b22_c_p3_starts))]) (va_runSN (As := [.ref a_p2, .int ((r_58 + (1 : Int32)) + ((2 : Int32) * r_31)), .int (1 : Int32)]) (rest := []) hF (mtX9_set l D cI cJ cO PL _ a_p2 60 r_78 ((r_58 + (1 : Int32)) + ((2 : Int32) * r_31)) (1 : Int32) r_85 hc_85) ⟨va_cnB 3 htc (rk_gw w_1_46) rfl rfl rfl (hV.2.1 _ nw_2_16) (htc _ w_1_1) (by decide +kernel) ⟨(Nat.le_of_ble_eq_true rfl), (Nat.le_of_ble_eq_true rfl)⟩, htc _ w_1_45, trivial⟩ (rk_preS hP hD hS hR hn hPL hnl hV [2] [] rfl (by decide) rfl (by decide)) rfl rfl hl.1 rfl (lv_room (Nat.le_of_ble_eq_true rfl)) dX7_spell_85 ⟨(Nat.le_of_ble_eq_true rfl), (Nat.le_of_ble_eq_true rfl)⟩) hP hD hS hA hR0 hn [2] [0, 1] rfl rfl (by decide) (by decide) (fun H locs hP hD hS hR => ?_)
        have hP : va_P D vwCl [(a_p3_sizes, .inl (cI, 60, .inl r_6.2)), (a_p3_starts, .inl (cI, 60, .inl b22_c_p3_starts)), (a_p2, .inl (cI, 60, .inl r_85))] H := hP
        have hD : va_D A [(a_p3_sizes, .inl (cI, 60, .inl r_6.2)), (a_p3_starts, .inl (cI, 60, .inl b22_c_p3_starts)), (a_p2, .inl (cI, 60, .inl r_85))] := hD
        refine lv_iload hx hb dX7_spell_88 (lv_at hl 3 rfl) ?_
        have B108 : ∀ (b108_c_p3_starts : Nat → Int32), fX7_spell_B108 b22_l4 (rk_it3 (fX7_spell_L22 c_p0 v_p1 r_6) n22) r_31 r_42 r_58 r_85 b108_c_p3_starts = some r0 → ∀ (H : Heap) (locs : List Loc), va_P D vwCl [(a_p3_sizes, .inl (cI, 60, .inl r_6.2)), (a_p3_starts, .inl (cI, 60, .inl b108_c_p3_starts)), (a_p2, .inl (cI, 60, .inl r_85))] H → va_D A [(a_p3_sizes, .inl (cI, 60, .inl r_6.2)), (a_p3_starts, .inl (cI, 60, .inl b108_c_p3_starts)), (a_p2, .inl (cI, 60, .inl r_85))] → va_S A s.heap H locs → ∀ (ls : Array Slot), lv_has ls 9 [(0, .ref a_p0), (1, .int v_p1), (2, .ref a_p2), (3, .ref a_p3), (4, .int b22_l4), (5, .int r_31), (6, .int ((r_42 - (1 : Int32)) - r_31)), (8, .int ((r_58 + (1 : Int32)) + ((2 : Int32) * r_31)))] → W p l e rmX7_spell s m args below meth c H locs 0 0 Q (F0 m 108 ls []) := by
          intro b108_c_p3_starts h H locs hP hD hS ls hl
          unfold fX7_spell_B108 at h
          have hR := rk_keep hR0 hn hS
          refine lv_iload hx hb dX7_spell_108 (lv_at hl 6 rfl) ?_
          have B131 : ∀ (b131_c_p3_starts : Nat → Int32), fX7_spell_B131 b22_l4 (rk_it3 (fX7_spell_L22 c_p0 v_p1 r_6) n22) r_85 b131_c_p3_starts = some r0 → ∀ (H : Heap) (locs : List Loc), va_P D vwCl [(a_p3_sizes, .inl (cI, 60, .inl r_6.2)), (a_p3_starts, .inl (cI, 60, .inl b131_c_p3_starts)), (a_p2, .inl (cI, 60, .inl r_85))] H → va_D A [(a_p3_sizes, .inl (cI, 60, .inl r_6.2)), (a_p3_starts, .inl (cI, 60, .inl b131_c_p3_starts)), (a_p2, .inl (cI, 60, .inl r_85))] → va_S A s.heap H locs → ∀ (ls : Array Slot), lv_has ls 9 [(0, .ref a_p0), (1, .int v_p1), (2, .ref a_p2), (3, .ref a_p3), (4, .int b22_l4)] → W p l e rmX7_spell s m args below meth c H locs 0 0 Q (F0 m 131 ls []) := by
            intro b131_c_p3_starts h H locs hP hD hS ls hl
            unfold fX7_spell_B131 at h
            have hR := rk_keep hR0 hn hS
            refine lv_iinc (v := (b22_l4 + 1)) (lv' := [(4, .int (b22_l4 + 1)), (0, .ref a_p0), (1, .int v_p1), (2, .ref a_p2), (3, .ref a_p3)]) hx hb dX7_spell_131 hl (k := 4) rfl rfl (by decide) rfl (fun ls hl => ?_)
            refine lv_goto (tgt := 22) hx hb dX7_spell_134 (by decide) ?_
            exact ih22 (b22_l4 + 1) r_85 b131_c_p3_starts h _ _ (hP.sub [2, 0, 1] rfl) (hD.sub [2, 0, 1] (by decide) rfl) hS _ (lv_sub hl [1, 2, 3, 4, 0] rfl)
          refine lv_if_le (tgt := 131) hx hb dX7_spell_110 (by decide) (fun hc2 => ?_) (fun hc2 => ?_)
          · have h := rk_if hc2 h
            exact B131 b108_c_p3_starts h _ _ hP hD hS _ (lv_sub hl [0, 1, 2, 3, 4] rfl)
          · have h := rk_nif hc2 h
            refine lv_aload_n hx hb dX7_spell_113 rfl (lv_at hl 3 rfl) ?_
            refine va_getN (D := D) (ci := 2) (v := .ref a_p3_starts) (C := RX2) (T := TX2) (N := 7) hx hb htc inX2 hown hV.1 hR 1 rfl rfl 4 (by decide) (va_Nw.use rfl (hV.2.1 _ nw_1_62)) (fun _ h9 => h9) rfl dX7_spell_114 ?_
            refine lv_iload hx hb dX7_spell_117 (lv_at hl 4 rfl) ?_
            refine lv_iconst (v := 1) hx hb dX7_spell_119 (by decide) ?_
            refine lv_iadd hx hb dX7_spell_120 ?_
            refine lv_iload hx hb dX7_spell_121 (lv_at hl 5 rfl) ?_
            refine lv_iadd hx hb dX7_spell_123 ?_
            refine lv_iload hx hb dX7_spell_124 (lv_at hl 7 rfl) ?_
            refine lv_iconst (v := 1) hx hb dX7_spell_126 (by decide) ?_
            refine lv_iadd hx hb dX7_spell_127 ?_
            obtain ⟨r_128, hc_128, h⟩ := rk_bd h
            refine rk_v (wr := [(a_p3_sizes, .inl (cI, 60, .inl r_6.2)), (a_p2, .inl (cI, 60, .inl r_85))]) (va_runSN (As := [.ref a_p3_starts, .int ((b22_l4 + (1 : Int32)) + r_31), .int (((r_58 + (1 : Int32)) + ((2 : Int32) * r_31)) + (1 : Int32))]) (rest := []) hF (mtX9_set l D cI cJ cO PL _ a_p3_starts 60 b108_c_p3_starts ((b22_l4 + (1 : Int32)) + r_31) (((r_58 + (1 : Int32)) + ((2 : Int32) * r_31)) + (1 : Int32)) r_128 hc_128) ⟨va_cnB 3 htc (rk_gw w_1_46) rfl rfl rfl (hV.2.1 _ nw_2_16) (htc _ w_1_1) (by decide +kernel) ⟨(Nat.le_of_ble_eq_true rfl), (Nat.le_of_ble_eq_true rfl)⟩, htc _ w_1_45, trivial⟩ (rk_preS hP hD hS hR hn hPL hnl hV [1] [] rfl (by decide) rfl (by decide)) rfl rfl hl.1 rfl (lv_room (Nat.le_of_ble_eq_true rfl)) dX7_spell_128 ⟨(Nat.le_of_ble_eq_true rfl), (Nat.le_of_ble_eq_true rfl)⟩) hP hD hS hA hR0 hn [1] [0, 2] rfl rfl (by decide) (by decide) (fun H locs hP hD hS hR => ?_)
            have hP : va_P D vwCl [(a_p3_sizes, .inl (cI, 60, .inl r_6.2)), (a_p2, .inl (cI, 60, .inl r_85)), (a_p3_starts, .inl (cI, 60, .inl r_128))] H := hP
            have hD : va_D A [(a_p3_sizes, .inl (cI, 60, .inl r_6.2)), (a_p2, .inl (cI, 60, .inl r_85)), (a_p3_starts, .inl (cI, 60, .inl r_128))] := hD
            exact B131 r_128 h _ _ (hP.sub [0, 2, 1] rfl) (hD.sub [0, 2, 1] (by decide) rfl) hS _ (lv_sub hl [0, 1, 2, 3, 4] rfl)
        refine lv_if_le (tgt := 108) hx hb dX7_spell_90 (by decide) (fun hc3 => ?_) (fun hc3 => ?_)
        · have h := rk_if hc3 h
          exact B108 b22_c_p3_starts h _ _ hP hD hS _ (lv_sub hl [4, 5, 6, 7, 8, 3, 2, 0] rfl)
        · have h := rk_nif hc3 h
          refine lv_aload_n hx hb dX7_spell_93 rfl (lv_at hl 7 rfl) ?_
          refine va_getN (D := D) (ci := 2) (v := .ref a_p3_starts) (C := RX2) (T := TX2) (N := 7) hx hb htc inX2 hown hV.1 hR 1 rfl rfl 4 (by decide) (va_Nw.use rfl (hV.2.1 _ nw_1_62)) (fun _ h9 => h9) rfl dX7_spell_94 ?_
          refine lv_iload hx hb dX7_spell_97 (lv_at hl 8 rfl) ?_
          refine lv_iconst (v := 1) hx hb dX7_spell_99 (by decide) ?_
          refine lv_iadd hx hb dX7_spell_100 ?_
          refine lv_iload hx hb dX7_spell_101 (lv_at hl 1 rfl) ?_
          refine lv_iconst (v := 1) hx hb dX7_spell_103 (by decide) ?_
          refine lv_iadd hx hb dX7_spell_104 ?_
          obtain ⟨r_105, hc_105, h⟩ := rk_bd h
          refine rk_v (wr := [(a_p3_sizes, .inl (cI, 60, .inl r_6.2)), (a_p2, .inl (cI, 60, .inl r_85))]) (va_runSN (As := [.ref a_p3_starts, .int (b22_l4 + (1 : Int32)), .int (r_58 + (1 : Int32))]) (rest := []) hF (mtX9_set l D cI cJ cO PL _ a_p3_starts 60 b22_c_p3_starts (b22_l4 + (1 : Int32)) (r_58 + (1 : Int32)) r_105 hc_105) ⟨va_cnB 3 htc (rk_gw w_1_46) rfl rfl rfl (hV.2.1 _ nw_2_16) (htc _ w_1_1) (by decide +kernel) ⟨(Nat.le_of_ble_eq_true rfl), (Nat.le_of_ble_eq_true rfl)⟩, htc _ w_1_45, trivial⟩ (rk_preS hP hD hS hR hn hPL hnl hV [1] [] rfl (by decide) rfl (by decide)) rfl rfl hl.1 rfl (lv_room (Nat.le_of_ble_eq_true rfl)) dX7_spell_105 ⟨(Nat.le_of_ble_eq_true rfl), (Nat.le_of_ble_eq_true rfl)⟩) hP hD hS hA hR0 hn [1] [0, 2] rfl rfl (by decide) (by decide) (fun H locs hP hD hS hR => ?_)
          have hP : va_P D vwCl [(a_p3_sizes, .inl (cI, 60, .inl r_6.2)), (a_p2, .inl (cI, 60, .inl r_85)), (a_p3_starts, .inl (cI, 60, .inl r_105))] H := hP
          have hD : va_D A [(a_p3_sizes, .inl (cI, 60, .inl r_6.2)), (a_p2, .inl (cI, 60, .inl r_85)), (a_p3_starts, .inl (cI, 60, .inl r_105))] := hD
          exact B108 r_105 h _ _ (hP.sub [0, 2, 1] rfl) (hD.sub [0, 2, 1] (by decide) rfl) hS _ (lv_sub hl [4, 5, 6, 7, 8, 3, 2, 0] rfl)
  exact L22 FU (0 : Int32) c_p2 r_16 h _ _ hP hD hS _ (lv_sub hl [1, 2, 3, 4, 0] rfl)
set_option maxHeartbeats 4000000 in
set_option maxRecDepth 100000 in
theorem mtX3_init_X8 (l : Launch) (D : va_G) (cI cJ cO : ClassId) (PL : va_W) (sz : Nat) (a_this : Nat) (v_p1 : Int32) (v_p2 : Int32) (v_p3 : Int64) (r0 : Int32 × Int32 × Int64 × Int32 × Int32) (h : fX3_init_X8 v_p1 v_p2 v_p3 = some r0) : Met l yX3_init (rk_w yX3_init cX3_init 5 none) rmX3_init_X8 (va_Pc [.ref a_this, .int v_p1, .int v_p2, .long v_p3] (rk_B D (rk_TY cI cJ cO) [(a_this, .inr (7, [.int 0, .int 0, .long 0, .int 0, .int 0]))] [] PL sz)) (rk_Qv D [(a_this, .inr (7, [.int r0.1, .int r0.2.1, .long r0.2.2.1, .int r0.2.2.2.1, .int r0.2.2.2.2]))] [(a_this, .inr (7, [.int 0, .int 0, .long 0, .int 0, .int 0]))] sz) 0 0 (va_A [(a_this, .inr (7, [.int 0, .int 0, .long 0, .int 0, .int 0]))] sz) := by
  refine rk_metv h (fun x => [(a_this, .inr (7, [.int x.1, .int x.2.1, .long x.2.2.1, .int x.2.2.2.1, .int x.2.2.2.2]))]) (by decide) (Nat.le_of_ble_eq_true rfl) ?_
  intro p e s m args below meth c A ls Q hret hname hF hP hD hA hV hR0 hn hPL hnl hl h hS
  have hx := hF.1
  have hb := hF.2.1
  have hml := hF.2.2.1
  have hown : s.vm.findClass RX3 = some m.cls := hF.2.2.2.1
  have htc := hF.2.2.2.2
  have hname : meth.name = "<init>" := hname
  have hP : va_P D vwCl [(a_this, .inr (7, [.int 0, .int 0, .long 0, .int 0, .int 0]))] s.heap := hP
  have hD : va_D A [(a_this, .inr (7, [.int 0, .int 0, .long 0, .int 0, .int 0]))] := hD
  have hR0 : va_P D vwCl [] s.heap := hR0
  have hR := hR0
  have hl : lv_has ls 5 [(0, .ref a_this), (1, .int v_p1), (2, .int v_p2), (3, .long v_p3)] := hl
  unfold fX3_init_X8 at h
  refine lv_aload_n hx hb dX3_init_0 rfl (lv_at hl 0 rfl) ?_
  refine W.objInit hx hb hown (htc _ w_1_116) (htc _ w_1_21) (htc _ w_1_22) rfl (by rw [hml]; exact hl.1) rfl dX3_init_1 (Nat.le_of_ble_eq_true rfl) (Nat.le_of_ble_eq_true rfl) ?_
  refine W.eq (g2 := F0 m 4 ls []) rfl ?_
  refine lv_aload_n hx hb dX3_init_4 rfl (lv_at hl 0 rfl) ?_
  refine lv_iload_n hx hb dX3_init_5 rfl (lv_at hl 1 rfl) ?_
  refine va_putF (D := D) (ci := 7) (v := .int v_p1) (ty := .int) (C := RX8) (T := TX8) (N := 5) hx hb htc inX8 tyX8 tyX8_ok nmX8 hown hV.1 hP hD hS 0 rfl rfl 0 (by decide) (htc _ w_1_119) (fun _ h9 => h9) rfl hname rfl (by decide +kernel) rfl rfl (Nat.le_of_ble_eq_true rfl) dX3_init_6 (fun H locs hP hD hS => ?_)
  have hP : va_P D vwCl [(a_this, .inr (7, [.int v_p1, .int 0, .long 0, .int 0, .int 0]))] H := hP
  have hD : va_D A [(a_this, .inr (7, [.int v_p1, .int 0, .long 0, .int 0, .int 0]))] := hD
  refine lv_aload_n hx hb dX3_init_9 rfl (lv_at hl 0 rfl) ?_
  refine lv_iload_n hx hb dX3_init_10 rfl (lv_at hl 2 rfl) ?_
  refine va_putF (D := D) (ci := 7) (v := .int v_p2) (ty := .int) (C := RX8) (T := TX8) (N := 5) hx hb htc inX8 tyX8 tyX8_ok nmX8 hown hV.1 hP hD hS 0 rfl rfl 1 (by decide) (htc _ w_1_122) (fun _ h9 => h9) rfl hname rfl (by decide +kernel) rfl rfl (Nat.le_of_ble_eq_true rfl) dX3_init_11 (fun H locs hP hD hS => ?_)
  have hP : va_P D vwCl [(a_this, .inr (7, [.int v_p1, .int v_p2, .long 0, .int 0, .int 0]))] H := hP
  have hD : va_D A [(a_this, .inr (7, [.int v_p1, .int v_p2, .long 0, .int 0, .int 0]))] := hD
  refine lv_aload_n hx hb dX3_init_14 rfl (lv_at hl 0 rfl) ?_
  refine lv_lload_n hx hb dX3_init_15 rfl (lv_at hl 3 rfl) ?_
  refine va_putF (D := D) (ci := 7) (v := .long v_p3) (ty := .long) (C := RX8) (T := TX8) (N := 5) hx hb htc inX8 tyX8 tyX8_ok nmX8 hown hV.1 hP hD hS 0 rfl rfl 2 (by decide) (htc _ w_1_136) (fun _ h9 => h9) rfl hname rfl (by decide +kernel) rfl rfl (Nat.le_of_ble_eq_true rfl) dX3_init_16 (fun H locs hP hD hS => ?_)
  have hP : va_P D vwCl [(a_this, .inr (7, [.int v_p1, .int v_p2, .long v_p3, .int 0, .int 0]))] H := hP
  have hD : va_D A [(a_this, .inr (7, [.int v_p1, .int v_p2, .long v_p3, .int 0, .int 0]))] := hD
  exact hret (v_p1, v_p2, v_p3, 0, 0) _ _ _ _ h dX3_init_19 hP hD hS
set_option maxHeartbeats 4000000 in
set_option maxRecDepth 100000 in
theorem mtX8_init (l : Launch) (D : va_G) (cI cJ cO : ClassId) (PL : va_W) (sz : Nat) (a_this : Nat) (v_p1 : Int32) (v_p2 : Int32) (v_p3 : Int64) (r0 : Int32 × Int32 × Int64 × Int32 × Int32) (h : fX8_init v_p1 v_p2 v_p3 = some r0) : Met l yX8_init (rk_w yX8_init cX8_init 5 none) rmX8_init (va_Pc [.ref a_this, .int v_p1, .int v_p2, .long v_p3] (rk_B D (rk_TY cI cJ cO) [(a_this, .inr (7, [.int 0, .int 0, .long 0, .int 0, .int 0]))] [] PL sz)) (rk_Qv D [(a_this, .inr (7, [.int r0.1, .int r0.2.1, .long r0.2.2.1, .int r0.2.2.2.1, .int r0.2.2.2.2]))] [(a_this, .inr (7, [.int 0, .int 0, .long 0, .int 0, .int 0]))] sz) 0 0 (va_A [(a_this, .inr (7, [.int 0, .int 0, .long 0, .int 0, .int 0]))] sz) := by
  refine rk_metv h (fun x => [(a_this, .inr (7, [.int x.1, .int x.2.1, .long x.2.2.1, .int x.2.2.2.1, .int x.2.2.2.2]))]) (by decide) (Nat.le_of_ble_eq_true rfl) ?_
  intro p e s m args below meth c A ls Q hret hname hF hP hD hA hV hR0 hn hPL hnl hl h hS
  have hx := hF.1
  have hb := hF.2.1
  have hml := hF.2.2.1
  have hown : s.vm.findClass RX8 = some m.cls := hF.2.2.2.1
  have htc := hF.2.2.2.2
  have hname : meth.name = "<init>" := hname
  have hP : va_P D vwCl [(a_this, .inr (7, [.int 0, .int 0, .long 0, .int 0, .int 0]))] s.heap := hP
  have hD : va_D A [(a_this, .inr (7, [.int 0, .int 0, .long 0, .int 0, .int 0]))] := hD
  have hR0 : va_P D vwCl [] s.heap := hR0
  have hR := hR0
  have hl : lv_has ls 5 [(0, .ref a_this), (1, .int v_p1), (2, .int v_p2), (3, .long v_p3)] := hl
  unfold fX8_init at h
  refine lv_aload_n hx hb dX8_init_0 rfl (lv_at hl 0 rfl) ?_
  refine lv_iconst (v := 2) hx hb dX8_init_1 (by decide) ?_
  refine lv_iconst (v := 2) hx hb dX8_init_2 (by decide) ?_
  refine lv_iload_n hx hb dX8_init_3 rfl (lv_at hl 1 rfl) ?_
  refine lv_imul hx hb dX8_init_4 ?_
  refine lv_lload_n hx hb dX8_init_5 rfl (lv_at hl 3 rfl) ?_
  obtain ⟨r_6, hc_6, h⟩ := rk_bd h
  refine rk_v (wr := []) (va_runI (As := [.int (2 : Int32), .int ((2 : Int32) * v_p1), .long v_p3]) (rest := []) hF (mtX3_init_X8 l D cI cJ cO PL _ a_this (2 : Int32) ((2 : Int32) * v_p1) v_p3 r_6 hc_6) (cwI 3 htc (rk_gw w_1_115) rfl rfl rfl (htc _ w_1_5) (htc _ w_2_95) (htc _ w_1_114) rfl (by decide +kernel) ⟨(Nat.le_of_ble_eq_true rfl), (Nat.le_of_ble_eq_true rfl)⟩) (rk_preS hP hD hS rk_nilP hn hPL hnl hV [0] [] rfl (by decide) rfl (by decide)) rfl rfl hl.1 rfl (lv_room (Nat.le_of_ble_eq_true rfl)) dX8_init_6 ⟨(Nat.le_of_ble_eq_true rfl), (Nat.le_of_ble_eq_true rfl)⟩) hP hD hS hA hR0 hn [0] [] rfl rfl (by decide) (by decide) (fun H locs hP hD hS hR => ?_)
  have hP : va_P D vwCl [(a_this, .inr (7, [.int r_6.1, .int r_6.2.1, .long r_6.2.2.1, .int r_6.2.2.2.1, .int r_6.2.2.2.2]))] H := hP
  have hD : va_D A [(a_this, .inr (7, [.int r_6.1, .int r_6.2.1, .long r_6.2.2.1, .int r_6.2.2.2.1, .int r_6.2.2.2.2]))] := hD
  refine lv_aload_n hx hb dX8_init_9 rfl (lv_at hl 0 rfl) ?_
  refine lv_iload_n hx hb dX8_init_10 rfl (lv_at hl 1 rfl) ?_
  refine va_putF (D := D) (ci := 7) (v := .int v_p1) (ty := .int) (C := RX8) (T := TX8) (N := 5) hx hb htc inX8 tyX8 tyX8_ok nmX8 hown hV.1 hP hD hS 0 rfl rfl 3 (by decide) (htc _ w_2_96) (fun _ h9 => h9) rfl hname rfl (by decide +kernel) rfl rfl (Nat.le_of_ble_eq_true rfl) dX8_init_11 (fun H locs hP hD hS => ?_)
  have hP : va_P D vwCl [(a_this, .inr (7, [.int r_6.1, .int r_6.2.1, .long r_6.2.2.1, .int v_p1, .int r_6.2.2.2.2]))] H := hP
  have hD : va_D A [(a_this, .inr (7, [.int r_6.1, .int r_6.2.1, .long r_6.2.2.1, .int v_p1, .int r_6.2.2.2.2]))] := hD
  refine lv_aload_n hx hb dX8_init_14 rfl (lv_at hl 0 rfl) ?_
  refine lv_iload_n hx hb dX8_init_15 rfl (lv_at hl 2 rfl) ?_
  refine va_putF (D := D) (ci := 7) (v := .int v_p2) (ty := .int) (C := RX8) (T := TX8) (N := 5) hx hb htc inX8 tyX8 tyX8_ok nmX8 hown hV.1 hP hD hS 0 rfl rfl 4 (by decide) (htc _ w_2_97) (fun _ h9 => h9) rfl hname rfl (by decide +kernel) rfl rfl (Nat.le_of_ble_eq_true rfl) dX8_init_16 (fun H locs hP hD hS => ?_)
  have hP : va_P D vwCl [(a_this, .inr (7, [.int r_6.1, .int r_6.2.1, .long r_6.2.2.1, .int v_p1, .int v_p2]))] H := hP
  have hD : va_D A [(a_this, .inr (7, [.int r_6.1, .int r_6.2.1, .long r_6.2.2.1, .int v_p1, .int v_p2]))] := hD
  exact hret (r_6.1, r_6.2.1, r_6.2.2.1, v_p1, v_p2) _ _ _ _ h dX8_init_19 hP hD hS
set_option maxHeartbeats 4000000 in
set_option maxRecDepth 100000 in
theorem mtX8_isOpening (l : Launch) (D : va_G) (cI cJ cO : ClassId) (PL : va_W) (sz : Nat) (v_p0 : Int32) (r0 : Int32) (h : fX8_isOpening v_p0 = some r0) : Met l yX8_isOpening (rk_w yX8_isOpening cX8_isOpening 1 (some .boolean)) rmX8_isOpening (va_Pc [.int v_p0] (rk_B D (rk_TY cI cJ cO) [] [] PL sz)) (rk_Qi r0 D [] [] sz) 0 0 (va_A [] sz) := by
  refine rk_metz h (fun x : Int32 => x) (fun x => []) (by decide) (Nat.le_of_ble_eq_true rfl) ?_
  intro p e s m args below meth c A ls Q hret hname hF hP hD hA hV hR0 hn hPL hnl hl h hS
  have hx := hF.1
  have hb := hF.2.1
  have hml := hF.2.2.1
  have hown : s.vm.findClass RX8 = some m.cls := hF.2.2.2.1
  have htc := hF.2.2.2.2
  have hP : va_P D vwCl [] s.heap := hP
  have hD : va_D A [] := hD
  have hR0 : va_P D vwCl [] s.heap := hR0
  have hR := hR0
  have hl : lv_has ls 1 [(0, .int v_p0)] := hl
  unfold fX8_isOpening at h
  refine lv_iload_n hx hb dX8_isOpening_0 rfl (lv_at hl 0 rfl) ?_
  refine lv_iconst (v := 1) hx hb dX8_isOpening_1 (by decide) ?_
  refine lv_iand hx hb dX8_isOpening_2 ?_
  refine lv_if_ne (tgt := 10) hx hb dX8_isOpening_3 (by decide) (fun hc1 => ?_) (fun hc1 => ?_)
  · have h := rk_if hc1 h
    refine lv_iconst (v := 0) hx hb dX8_isOpening_10 (by decide) ?_
    exact hret (0 : Int32) _ _ _ _ h rk_nb0 dX8_isOpening_11 hP hD hS
  · have h := rk_nnif hc1 h
    refine lv_iconst (v := 1) hx hb dX8_isOpening_6 (by decide) ?_
    refine lv_goto (tgt := 11) hx hb dX8_isOpening_7 (by decide) ?_
    exact hret (1 : Int32) _ _ _ _ h rk_nb1 dX8_isOpening_11 hP hD hS
set_option maxHeartbeats 4000000 in
set_option maxRecDepth 100000 in
theorem mtX8_openAfter (l : Launch) (D : va_G) (cI cJ cO : ClassId) (PL : va_W) (sz : Nat) (v_p0 : Int64) (v_p2 : Int32) (r0 : Int64) (h : fX8_openAfter v_p0 v_p2 = some r0) : Met l yX8_openAfter (rk_w yX8_openAfter cX8_openAfter 3 (some .long)) rmX8_openAfter (va_Pc [.long v_p0, .int v_p2] (rk_B D (rk_TY cI cJ cO) [] [] PL sz)) (rk_Ql r0 D [] [] sz) 0 0 (va_A [] sz) := by
  refine rk_metl h (fun x : Int64 => x) (fun x => []) (by decide) (Nat.le_of_ble_eq_true rfl) ?_
  intro p e s m args below meth c A ls Q hret hname hF hP hD hA hV hR0 hn hPL hnl hl h hS
  have hx := hF.1
  have hb := hF.2.1
  have hml := hF.2.2.1
  have hown : s.vm.findClass RX8 = some m.cls := hF.2.2.2.1
  have htc := hF.2.2.2.2
  have hP : va_P D vwCl [] s.heap := hP
  have hD : va_D A [] := hD
  have hR0 : va_P D vwCl [] s.heap := hR0
  have hR := hR0
  have hl : lv_has ls 3 [(0, .long v_p0), (2, .int v_p2)] := hl
  unfold fX8_openAfter at h
  refine lv_iload_n hx hb dX8_openAfter_0 rfl (lv_at hl 1 rfl) ?_
  obtain ⟨r_1, hc_1, h⟩ := rk_bd h
  refine rk_i (wr := []) (va_runS (As := [.int v_p2]) (rest := []) hF (mtX8_isOpening l D cI cJ cO PL _ v_p2 r_1 hc_1) (va_cwS 1 htc (rk_gVS w_2_43 w_2_44 w_1_11 w_2_45) rfl rfl rfl (by decide +kernel) ⟨(Nat.le_of_ble_eq_true rfl), (Nat.le_of_ble_eq_true rfl)⟩) (rk_preS hP hD hS rk_nilP hn hPL hnl hV [] [] rfl (by decide) rfl (by decide)) rfl rfl hl.1 rfl (lv_room (Nat.le_of_ble_eq_true rfl)) dX8_openAfter_1 ⟨(Nat.le_of_ble_eq_true rfl), (Nat.le_of_ble_eq_true rfl)⟩) hP hD hS hA hR0 hn [] [] rfl rfl (by decide) (by decide) (fun H locs hP hD hS hR => ?_)
  have hP : va_P D vwCl [] H := hP
  have hD : va_D A [] := hD
  refine lv_if_eq (tgt := 18) hx hb dX8_openAfter_4 (by decide) (fun hc1 => ?_) (fun hc1 => ?_)
  · have h := rk_if hc1 h
    refine lv_lload_n hx hb dX8_openAfter_18 rfl (lv_at hl 0 rfl) ?_
    refine lv_iconst (v := 1) hx hb dX8_openAfter_19 (by decide) ?_
    refine lv_lushr hx hb dX8_openAfter_20 rfl ?_
    exact hret ((v_p0.toUInt64 >>> ((1 : Int32).toInt64.toUInt64 &&& Int64.toUInt64 63)).toInt64) _ _ _ _ h dX8_openAfter_21 hP hD hS
  · have h := rk_nif hc1 h
    refine lv_lload_n hx hb dX8_openAfter_7 rfl (lv_at hl 0 rfl) ?_
    refine lv_iconst (v := 1) hx hb dX8_openAfter_8 (by decide) ?_
    refine lv_lshl hx hb dX8_openAfter_9 rfl ?_
    refine lv_iload_n hx hb dX8_openAfter_10 rfl (lv_at hl 1 rfl) ?_
    refine lv_iconst (v := 1) hx hb dX8_openAfter_11 (by decide) ?_
    refine lv_ishr hx hb dX8_openAfter_12 ?_
    refine lv_i2l hx hb dX8_openAfter_13 rfl ?_
    refine lv_lor hx hb dX8_openAfter_14 ?_
    refine lv_goto (tgt := 21) hx hb dX8_openAfter_15 (by decide) ?_
    exact hret ((v_p0 <<< ((1 : Int32).toInt64 &&& 63)) ||| (v_p2 >>> ((1 : Int32) &&& 31)).toInt64) _ _ _ _ h dX8_openAfter_21 hP hD hS
set_option maxHeartbeats 4000000 in
set_option maxRecDepth 100000 in
theorem mtX8_depthAfter (l : Launch) (D : va_G) (cI cJ cO : ClassId) (PL : va_W) (sz : Nat) (v_p0 : Int32) (v_p1 : Int32) (r0 : Int32) (h : fX8_depthAfter v_p0 v_p1 = some r0) : Met l yX8_depthAfter (rk_w yX8_depthAfter cX8_depthAfter 2 (some .int)) rmX8_depthAfter (va_Pc [.int v_p0, .int v_p1] (rk_B D (rk_TY cI cJ cO) [] [] PL sz)) (rk_Qi r0 D [] [] sz) 0 0 (va_A [] sz) := by
  refine rk_meti h (fun x : Int32 => x) (fun x => []) (by decide) (Nat.le_of_ble_eq_true rfl) ?_
  intro p e s m args below meth c A ls Q hret hname hF hP hD hA hV hR0 hn hPL hnl hl h hS
  have hx := hF.1
  have hb := hF.2.1
  have hml := hF.2.2.1
  have hown : s.vm.findClass RX8 = some m.cls := hF.2.2.2.1
  have htc := hF.2.2.2.2
  have hP : va_P D vwCl [] s.heap := hP
  have hD : va_D A [] := hD
  have hR0 : va_P D vwCl [] s.heap := hR0
  have hR := hR0
  have hl : lv_has ls 2 [(0, .int v_p0), (1, .int v_p1)] := hl
  unfold fX8_depthAfter at h
  refine lv_iload_n hx hb dX8_depthAfter_0 rfl (lv_at hl 1 rfl) ?_
  obtain ⟨r_1, hc_1, h⟩ := rk_bd h
  refine rk_i (wr := []) (va_runS (As := [.int v_p1]) (rest := []) hF (mtX8_isOpening l D cI cJ cO PL _ v_p1 r_1 hc_1) (va_cwS 1 htc (rk_gVS w_2_43 w_2_44 w_1_11 w_2_45) rfl rfl rfl (by decide +kernel) ⟨(Nat.le_of_ble_eq_true rfl), (Nat.le_of_ble_eq_true rfl)⟩) (rk_preS hP hD hS rk_nilP hn hPL hnl hV [] [] rfl (by decide) rfl (by decide)) rfl rfl hl.1 rfl (lv_room (Nat.le_of_ble_eq_true rfl)) dX8_depthAfter_1 ⟨(Nat.le_of_ble_eq_true rfl), (Nat.le_of_ble_eq_true rfl)⟩) hP hD hS hA hR0 hn [] [] rfl rfl (by decide) (by decide) (fun H locs hP hD hS hR => ?_)
  have hP : va_P D vwCl [] H := hP
  have hD : va_D A [] := hD
  refine lv_if_eq (tgt := 13) hx hb dX8_depthAfter_4 (by decide) (fun hc1 => ?_) (fun hc1 => ?_)
  · have h := rk_if hc1 h
    refine lv_iload_n hx hb dX8_depthAfter_13 rfl (lv_at hl 0 rfl) ?_
    refine lv_iconst (v := 1) hx hb dX8_depthAfter_14 (by decide) ?_
    refine lv_isub hx hb dX8_depthAfter_15 ?_
    exact hret (v_p0 - (1 : Int32)) _ _ _ _ h dX8_depthAfter_16 hP hD hS
  · have h := rk_nif hc1 h
    refine lv_iload_n hx hb dX8_depthAfter_7 rfl (lv_at hl 0 rfl) ?_
    refine lv_iconst (v := 1) hx hb dX8_depthAfter_8 (by decide) ?_
    refine lv_iadd hx hb dX8_depthAfter_9 ?_
    refine lv_goto (tgt := 16) hx hb dX8_depthAfter_10 (by decide) ?_
    exact hret (v_p0 + (1 : Int32)) _ _ _ _ h dX8_depthAfter_16 hP hD hS
set_option maxHeartbeats 4000000 in
set_option maxRecDepth 100000 in
theorem mtX8_mayFollow (l : Launch) (D : va_G) (cI cJ cO : ClassId) (PL : va_W) (sz : Nat) (v_p0 : Int32) (v_p1 : Int32) (v_p2 : Int64) (r0 : Int32) (h : fX8_mayFollow v_p0 v_p1 v_p2 = some r0) : Met l yX8_mayFollow (rk_w yX8_mayFollow cX8_mayFollow 4 (some .boolean)) rmX8_mayFollow (va_Pc [.int v_p0, .int v_p1, .long v_p2] (rk_B D (rk_TY cI cJ cO) [] [] PL sz)) (rk_Qi r0 D [] [] sz) 0 0 (va_A [] sz) := by
  refine rk_metz h (fun x : Int32 => x) (fun x => []) (by decide) (Nat.le_of_ble_eq_true rfl) ?_
  intro p e s m args below meth c A ls Q hret hname hF hP hD hA hV hR0 hn hPL hnl hl h hS
  have hx := hF.1
  have hb := hF.2.1
  have hml := hF.2.2.1
  have hown : s.vm.findClass RX8 = some m.cls := hF.2.2.2.1
  have htc := hF.2.2.2.2
  have hP : va_P D vwCl [] s.heap := hP
  have hD : va_D A [] := hD
  have hR0 : va_P D vwCl [] s.heap := hR0
  have hR := hR0
  have hl : lv_has ls 4 [(0, .int v_p0), (1, .int v_p1), (2, .long v_p2)] := hl
  unfold fX8_mayFollow at h
  refine lv_iload_n hx hb dX8_mayFollow_0 rfl (lv_at hl 0 rfl) ?_
  obtain ⟨r_1, hc_1, h⟩ := rk_bd h
  refine rk_i (wr := []) (va_runS (As := [.int v_p0]) (rest := []) hF (mtX8_isOpening l D cI cJ cO PL _ v_p0 r_1 hc_1) (va_cwS 1 htc (rk_gVS w_2_43 w_2_44 w_1_11 w_2_45) rfl rfl rfl (by decide +kernel) ⟨(Nat.le_of_ble_eq_true rfl), (Nat.le_of_ble_eq_true rfl)⟩) (rk_preS hP hD hS rk_nilP hn hPL hnl hV [] [] rfl (by decide) rfl (by decide)) rfl rfl hl.1 rfl (lv_room (Nat.le_of_ble_eq_true rfl)) dX8_mayFollow_1 ⟨(Nat.le_of_ble_eq_true rfl), (Nat.le_of_ble_eq_true rfl)⟩) hP hD hS hA hR0 hn [] [] rfl rfl (by decide) (by decide) (fun H locs hP hD hS hR => ?_)
  have hP : va_P D vwCl [] H := hP
  have hD : va_D A [] := hD
  have B22 : fX8_mayFollow_B22 = some r0 → ∀ (H : Heap) (locs : List Loc), va_P D vwCl [] H → va_D A [] → va_S A s.heap H locs → ∀ (ls : Array Slot), lv_has ls 4 [] → W p l e rmX8_mayFollow s m args below meth c H locs 0 0 Q (F0 m 22 ls []) := by
    intro  h H locs hP hD hS ls hl
    unfold fX8_mayFollow_B22 at h
    refine lv_iconst (v := 1) hx hb dX8_mayFollow_22 (by decide) ?_
    refine lv_goto (tgt := 27) hx hb dX8_mayFollow_23 (by decide) ?_
    exact hret (1 : Int32) _ _ _ _ h rk_nb1 dX8_mayFollow_27 hP hD hS
  refine lv_if_ne (tgt := 22) hx hb dX8_mayFollow_4 (by decide) (fun hc1 => ?_) (fun hc1 => ?_)
  · have h := rk_if hc1 h
    exact B22  h _ _ hP hD hS _ (lv_sub hl [] rfl)
  · have h := rk_nnif hc1 h
    refine lv_iload_n hx hb dX8_mayFollow_7 rfl (lv_at hl 1 rfl) ?_
    have B26 : fX8_mayFollow_B26 = some r0 → ∀ (H : Heap) (locs : List Loc), va_P D vwCl [] H → va_D A [] → va_S A s.heap H locs → ∀ (ls : Array Slot), lv_has ls 4 [] → W p l e rmX8_mayFollow s m args below meth c H locs 0 0 Q (F0 m 26 ls []) := by
      intro  h H locs hP hD hS ls hl
      unfold fX8_mayFollow_B26 at h
      refine lv_iconst (v := 0) hx hb dX8_mayFollow_26 (by decide) ?_
      exact hret (0 : Int32) _ _ _ _ h rk_nb0 dX8_mayFollow_27 hP hD hS
    refine lv_if_le (tgt := 26) hx hb dX8_mayFollow_8 (by decide) (fun hc2 => ?_) (fun hc2 => ?_)
    · have h := rk_if hc2 h
      exact B26  h _ _ hP hD hS _ (lv_sub hl [] rfl)
    · have h := rk_nif hc2 h
      refine lv_lload_n hx hb dX8_mayFollow_11 rfl (lv_at hl 2 rfl) ?_
      refine lv_lconst (v := 1) hx hb dX8_mayFollow_12 (by decide) ?_
      refine lv_land hx hb dX8_mayFollow_13 ?_
      refine lv_iload_n hx hb dX8_mayFollow_14 rfl (lv_at hl 0 rfl) ?_
      refine lv_iconst (v := 1) hx hb dX8_mayFollow_15 (by decide) ?_
      refine lv_ishr hx hb dX8_mayFollow_16 ?_
      refine lv_i2l hx hb dX8_mayFollow_17 rfl ?_
      refine rk_lcne (tgt := 26) hx hb dX8_mayFollow_18 dX8_mayFollow_19 (by decide) (fun hc3 => ?_) (fun hc3 => ?_)
      · have h := rk_if hc3 h
        exact B26  h _ _ hP hD hS _ (lv_sub hl [] rfl)
      · have h := rk_nnif hc3 h
        exact B22  h _ _ hP hD hS _ (lv_sub hl [] rfl)
set_option maxHeartbeats 4000000 in
set_option maxRecDepth 100000 in
theorem mtX8_waysAfter (l : Launch) (D : va_G) (cI cJ cO : ClassId) (PL : va_W) (sz : Nat) (a_this : Nat) (f_this_number : Int32) (f_this_width : Int32) (f_this_size : Int64) (f_this_pairs : Int32) (f_this_types : Int32) (a_p6 : Nat) (a_p6_binomials : Nat) (a_p6_partitionCounts : Nat) (a_p6_treeCounts : Nat) (a_p6_sizes : Nat) (a_p6_starts : Nat) (a_p6_ranks : Nat) (a_p6_letters : Nat) (c_p6_binomials : Nat → Int64) (v_p1 : Int32) (v_p2 : Int32) (v_p3 : Int32) (v_p4 : Int64) (r0 : Int64) (h : fX8_waysAfter f_this_width f_this_types c_p6_binomials v_p1 v_p2 v_p3 v_p4 = some r0) : Met l yX8_waysAfter (rk_w yX8_waysAfter cX8_waysAfter 7 (some .long)) rmX8_waysAfter (va_Pc [.ref a_this, .int v_p1, .int v_p2, .int v_p3, .long v_p4, .ref a_p6] (rk_B D (rk_TY cI cJ cO) [] [(a_this, .inr (7, [.int f_this_number, .int f_this_width, .long f_this_size, .int f_this_pairs, .int f_this_types])), (a_p6, .inr (2, [.ref a_p6_binomials, .ref a_p6_partitionCounts, .ref a_p6_treeCounts, .ref a_p6_sizes, .ref a_p6_starts, .ref a_p6_ranks, .ref a_p6_letters])), (a_p6_binomials, .inl (cJ, 1891, .inr (.inl c_p6_binomials)))] PL sz)) (rk_Ql r0 D [] [] sz) 0 0 (va_A [] sz) := by
  refine rk_metl h (fun x : Int64 => x) (fun x => []) (by decide) (Nat.le_of_ble_eq_true rfl) ?_
  intro p e s m args below meth c A ls Q hret hname hF hP hD hA hV hR0 hn hPL hnl hl h hS
  have hx := hF.1
  have hb := hF.2.1
  have hml := hF.2.2.1
  have hown : s.vm.findClass RX8 = some m.cls := hF.2.2.2.1
  have htc := hF.2.2.2.2
  have hP : va_P D vwCl [] s.heap := hP
  have hD : va_D A [] := hD
  have hR0 : va_P D vwCl [(a_this, .inr (7, [.int f_this_number, .int f_this_width, .long f_this_size, .int f_this_pairs, .int f_this_types])), (a_p6, .inr (2, [.ref a_p6_binomials, .ref a_p6_partitionCounts, .ref a_p6_treeCounts, .ref a_p6_sizes, .ref a_p6_starts, .ref a_p6_ranks, .ref a_p6_letters])), (a_p6_binomials, .inl (cJ, 1891, .inr (.inl c_p6_binomials)))] s.heap := hR0
  have hR := hR0
  have hl : lv_has ls 7 [(0, .ref a_this), (1, .int v_p1), (2, .int v_p2), (3, .int v_p3), (4, .long v_p4), (6, .ref a_p6)] := hl
  unfold fX8_waysAfter at h
  refine lv_iload_n hx hb dX8_waysAfter_0 rfl (lv_at hl 1 rfl) ?_
  refine lv_iload_n hx hb dX8_waysAfter_1 rfl (lv_at hl 3 rfl) ?_
  refine lv_lload hx hb dX8_waysAfter_2 (lv_at hl 4 rfl) ?_
  obtain ⟨r_4, hc_4, h⟩ := rk_bd h
  refine rk_i (wr := []) (va_runS (As := [.int v_p1, .int v_p3, .long v_p4]) (rest := []) hF (mtX8_mayFollow l D cI cJ cO PL _ v_p1 v_p3 v_p4 r_4 hc_4) (va_cwS 3 htc (rk_gVS w_2_40 w_2_41 w_1_11 w_2_42) rfl rfl rfl (by decide +kernel) ⟨(Nat.le_of_ble_eq_true rfl), (Nat.le_of_ble_eq_true rfl)⟩) (rk_preS hP hD hS hR hn hPL hnl hV [] [] rfl (by decide) rfl (by decide)) rfl rfl hl.1 rfl (lv_room (Nat.le_of_ble_eq_true rfl)) dX8_waysAfter_4 ⟨(Nat.le_of_ble_eq_true rfl), (Nat.le_of_ble_eq_true rfl)⟩) hP hD hS hA hR0 hn [] [] rfl rfl (by decide) (by decide) (fun H locs hP hD hS hR => ?_)
  have hP : va_P D vwCl [] H := hP
  have hD : va_D A [] := hD
  refine lv_if_eq (tgt := 35) hx hb dX8_waysAfter_7 (by decide) (fun hc1 => ?_) (fun hc1 => ?_)
  · have h := rk_if hc1 h
    refine lv_lconst (v := 0) hx hb dX8_waysAfter_35 (by decide) ?_
    exact hret (0 : Int64) _ _ _ _ h dX8_waysAfter_36 hP hD hS
  · have h := rk_nif hc1 h
    refine lv_aload hx hb dX8_waysAfter_10 (lv_at hl 5 rfl) ?_
    refine lv_aload_n hx hb dX8_waysAfter_12 rfl (lv_at hl 0 rfl) ?_
    refine va_get (D := D) (ci := 7) (v := .int f_this_width) (C := RX8) (T := TX8) (N := 5) hx hb htc inX8 hown hV.1 hR 0 rfl rfl 1 (by decide) (htc _ w_1_133) (fun _ h9 => u_same (htc _ w_1_134) _ h9) rfl dX8_waysAfter_13 ?_
    refine lv_iconst (v := 1) hx hb dX8_waysAfter_16 (by decide) ?_
    refine lv_isub hx hb dX8_waysAfter_17 ?_
    refine lv_iload_n hx hb dX8_waysAfter_18 rfl (lv_at hl 2 rfl) ?_
    refine lv_isub hx hb dX8_waysAfter_19 ?_
    refine lv_iload_n hx hb dX8_waysAfter_20 rfl (lv_at hl 3 rfl) ?_
    refine lv_iload_n hx hb dX8_waysAfter_21 rfl (lv_at hl 1 rfl) ?_
    obtain ⟨r_22, hc_22, h⟩ := rk_bd h
    refine rk_i (wr := []) (va_runS (As := [.int v_p3, .int v_p1]) (rest := [.int ((f_this_width - (1 : Int32)) - v_p2), .ref a_p6]) hF (mtX8_depthAfter l D cI cJ cO PL _ v_p3 v_p1 r_22 hc_22) (va_cwS 2 htc (rk_gVS w_2_46 w_2_47 w_1_11 w_2_48) rfl rfl rfl (by decide +kernel) ⟨(Nat.le_of_ble_eq_true rfl), (Nat.le_of_ble_eq_true rfl)⟩) (rk_preS hP hD hS hR hn hPL hnl hV [] [] rfl (by decide) rfl (by decide)) rfl rfl hl.1 rfl (lv_room (Nat.le_of_ble_eq_true rfl)) dX8_waysAfter_22 ⟨(Nat.le_of_ble_eq_true rfl), (Nat.le_of_ble_eq_true rfl)⟩) hP hD hS hA hR0 hn [] [] rfl rfl (by decide) (by decide) (fun H locs hP hD hS hR => ?_)
    have hP : va_P D vwCl [] H := hP
    have hD : va_D A [] := hD
    refine lv_aload_n hx hb dX8_waysAfter_25 rfl (lv_at hl 0 rfl) ?_
    refine va_get (D := D) (ci := 7) (v := .int f_this_types) (C := RX8) (T := TX8) (N := 5) hx hb htc inX8 hown hV.1 hR 0 rfl rfl 4 (by decide) (htc _ w_2_97) (fun _ h9 => h9) rfl dX8_waysAfter_26 ?_
    obtain ⟨r_29, hc_29, h⟩ := rk_bd h
    refine rk_l (wr := []) (va_runVN (C := RX2) (As := [.int ((f_this_width - (1 : Int32)) - v_p2), .int r_22, .int f_this_types]) (rest := []) hF (mtX2_wordEnds l D cI cJ cO PL _ a_p6 a_p6_binomials a_p6_partitionCounts a_p6_treeCounts a_p6_sizes a_p6_starts a_p6_ranks a_p6_letters c_p6_binomials ((f_this_width - (1 : Int32)) - v_p2) r_22 f_this_types r_29 hc_29) ⟨va_cnB 3 htc (rk_gw w_2_52) rfl rfl rfl (hV.2.1 _ nw_2_49) (htc _ w_1_2) (by decide +kernel) ⟨(Nat.le_of_ble_eq_true rfl), (Nat.le_of_ble_eq_true rfl)⟩, htc _ w_2_51, htc _ ws_11⟩ (rk_preV (va_recv hV.1 hR (ci := 2) (q0 := 1) rfl rfl) (rk_preS hP hD hS hR hn hPL hnl hV [] [(false, 1), (false, 2)] rfl (by decide) rfl (by decide))) rfl rfl hl.1 rfl (lv_room (Nat.le_of_ble_eq_true rfl)) dX8_waysAfter_29 ⟨(Nat.le_of_ble_eq_true rfl), (Nat.le_of_ble_eq_true rfl)⟩) hP hD hS hA hR0 hn [] [] rfl rfl (by decide) (by decide) (fun H locs hP hD hS hR => ?_)
    have hP : va_P D vwCl [] H := hP
    have hD : va_D A [] := hD
    refine lv_goto (tgt := 36) hx hb dX8_waysAfter_32 (by decide) ?_
    exact hret r_29 _ _ _ _ h dX8_waysAfter_36 hP hD hS
set_option maxHeartbeats 4000000 in
set_option maxRecDepth 100000 in
theorem mtX8_accepts (l : Launch) (D : va_G) (cI cJ cO : ClassId) (PL : va_W) (sz : Nat) (a_this : Nat) (f_this_number : Int32) (f_this_width : Int32) (f_this_size : Int64) (f_this_pairs : Int32) (f_this_types : Int32) (a_p1 : Nat) (c_p1 : Nat → Int32) (a_p2 : Nat) (a_p2_binomials : Nat) (a_p2_partitionCounts : Nat) (a_p2_treeCounts : Nat) (a_p2_sizes : Nat) (a_p2_starts : Nat) (a_p2_ranks : Nat) (a_p2_letters : Nat) (c_p2_letters : Nat → Int32) (c_p2_sizes : Nat → Int32) (r0 : Int32 × (Nat → Int32) × (Nat → Int32)) (h : fX8_accepts f_this_width f_this_types c_p1 c_p2_letters c_p2_sizes = some r0) : Met l yX8_accepts (rk_w yX8_accepts cX8_accepts 8 (some .boolean)) rmX8_accepts (va_Pc [.ref a_this, .ref a_p1, .ref a_p2] (rk_B D (rk_TY cI cJ cO) [(a_p2_letters, .inl (cI, 4, .inl c_p2_letters)), (a_p2_sizes, .inl (cI, 60, .inl c_p2_sizes))] [(a_this, .inr (7, [.int f_this_number, .int f_this_width, .long f_this_size, .int f_this_pairs, .int f_this_types])), (a_p1, .inl (cI, 60, .inl c_p1)), (a_p2, .inr (2, [.ref a_p2_binomials, .ref a_p2_partitionCounts, .ref a_p2_treeCounts, .ref a_p2_sizes, .ref a_p2_starts, .ref a_p2_ranks, .ref a_p2_letters]))] PL sz)) (rk_Qi r0.1 D [(a_p2_letters, .inl (cI, 4, .inl r0.2.1)), (a_p2_sizes, .inl (cI, 60, .inl r0.2.2))] [(a_p2_letters, .inl (cI, 4, .inl c_p2_letters)), (a_p2_sizes, .inl (cI, 60, .inl c_p2_sizes))] sz) 0 0 (va_A [(a_p2_letters, .inl (cI, 4, .inl c_p2_letters)), (a_p2_sizes, .inl (cI, 60, .inl c_p2_sizes))] sz) := by
  refine rk_metz h (fun x : Int32 × (Nat → Int32) × (Nat → Int32) => x.1) (fun x => [(a_p2_letters, .inl (cI, 4, .inl x.2.1)), (a_p2_sizes, .inl (cI, 60, .inl x.2.2))]) (by decide) (Nat.le_of_ble_eq_true rfl) ?_
  intro p e s m args below meth c A ls Q hret hname hF hP hD hA hV hR0 hn hPL hnl hl h hS
  have hx := hF.1
  have hb := hF.2.1
  have hml := hF.2.2.1
  have hown : s.vm.findClass RX8 = some m.cls := hF.2.2.2.1
  have htc := hF.2.2.2.2
  have hP : va_P D vwCl [(a_p2_letters, .inl (cI, 4, .inl c_p2_letters)), (a_p2_sizes, .inl (cI, 60, .inl c_p2_sizes))] s.heap := hP
  have hD : va_D A [(a_p2_letters, .inl (cI, 4, .inl c_p2_letters)), (a_p2_sizes, .inl (cI, 60, .inl c_p2_sizes))] := hD
  have hR0 : va_P D vwCl [(a_this, .inr (7, [.int f_this_number, .int f_this_width, .long f_this_size, .int f_this_pairs, .int f_this_types])), (a_p1, .inl (cI, 60, .inl c_p1)), (a_p2, .inr (2, [.ref a_p2_binomials, .ref a_p2_partitionCounts, .ref a_p2_treeCounts, .ref a_p2_sizes, .ref a_p2_starts, .ref a_p2_ranks, .ref a_p2_letters]))] s.heap := hR0
  have hR := hR0
  have hl : lv_has ls 8 [(0, .ref a_this), (1, .ref a_p1), (2, .ref a_p2)] := hl
  unfold fX8_accepts at h
  refine lv_iconst (v := 0) hx hb dX8_accepts_0 (by decide) ?_
  refine lv_istore_n (lv' := [(3, .int (0 : Int32)), (0, .ref a_this), (1, .ref a_p1), (2, .ref a_p2)]) hx hb dX8_accepts_1 rfl hl (by decide) rfl (fun ls hl => ?_)
  refine lv_lconst (v := 0) hx hb dX8_accepts_2 (by decide) ?_
  refine lv_lstore (lv' := [(4, .long (0 : Int64)), (3, .int (0 : Int32)), (0, .ref a_this), (1, .ref a_p1), (2, .ref a_p2)]) hx hb dX8_accepts_3 hl (by decide) rfl (fun ls hl => ?_)
  refine lv_iconst (v := 0) hx hb dX8_accepts_5 (by decide) ?_
  refine lv_istore (lv' := [(6, .int (0 : Int32)), (4, .long (0 : Int64)), (3, .int (0 : Int32)), (0, .ref a_this), (1, .ref a_p1), (2, .ref a_p2)]) hx hb dX8_accepts_6 hl (by decide) rfl (fun ls hl => ?_)
  have L8 : ∀ (n8 : Nat) (b8_l3 : Int32) (b8_l4 : Int64) (b8_l6 : Int32), rk_it3 (fX8_accepts_L8 f_this_width f_this_types c_p1 c_p2_letters c_p2_sizes) n8 b8_l3 b8_l4 b8_l6 = some r0 → ∀ (H : Heap) (locs : List Loc), va_P D vwCl [(a_p2_letters, .inl (cI, 4, .inl c_p2_letters)), (a_p2_sizes, .inl (cI, 60, .inl c_p2_sizes))] H → va_D A [(a_p2_letters, .inl (cI, 4, .inl c_p2_letters)), (a_p2_sizes, .inl (cI, 60, .inl c_p2_sizes))] → va_S A s.heap H locs → ∀ (ls : Array Slot), lv_has ls 8 [(0, .ref a_this), (1, .ref a_p1), (3, .int b8_l3), (4, .long b8_l4), (6, .int b8_l6)] → W p l e rmX8_accepts s m args below meth c H locs 0 0 Q (F0 m 8 ls []) := by
    intro n8
    induction n8 with
    | zero => intro b8_l3 b8_l4 b8_l6 h; exact rk_no h
    | succ n8 ih8 =>
      intro b8_l3 b8_l4 b8_l6 h H locs hP hD hS ls hl
      have h : fX8_accepts_L8 f_this_width f_this_types c_p1 c_p2_letters c_p2_sizes (rk_it3 (fX8_accepts_L8 f_this_width f_this_types c_p1 c_p2_letters c_p2_sizes) n8) b8_l3 b8_l4 b8_l6 = some r0 := h
      unfold fX8_accepts_L8 at h
      have hR := rk_keep hR0 hn hS
      refine lv_iload hx hb dX8_accepts_8 (lv_at hl 4 rfl) ?_
      refine lv_aload_n hx hb dX8_accepts_10 rfl (lv_at hl 0 rfl) ?_
      refine va_get (D := D) (ci := 7) (v := .int f_this_width) (C := RX8) (T := TX8) (N := 5) hx hb htc inX8 hown hV.1 hR 0 rfl rfl 1 (by decide) (htc _ w_1_133) (fun _ h9 => u_same (htc _ w_1_134) _ h9) rfl dX8_accepts_11 ?_
      refine lv_icmp_ge (tgt := 76) hx hb dX8_accepts_14 (by decide) (fun hc1 => ?_) (fun hc1 => ?_)
      · have h := rk_if hc1 h
        refine lv_iload_n hx hb dX8_accepts_76 rfl (lv_at hl 2 rfl) ?_
        refine lv_if_ne (tgt := 84) hx hb dX8_accepts_77 (by decide) (fun hc2 => ?_) (fun hc2 => ?_)
        · have h := rk_if hc2 h
          refine lv_iconst (v := 0) hx hb dX8_accepts_84 (by decide) ?_
          exact hret ((0 : Int32), c_p2_letters, c_p2_sizes) _ _ _ _ h rk_nb0 dX8_accepts_85 hP hD hS
        · have h := rk_nnif hc2 h
          refine lv_iconst (v := 1) hx hb dX8_accepts_80 (by decide) ?_
          refine lv_goto (tgt := 85) hx hb dX8_accepts_81 (by decide) ?_
          exact hret ((1 : Int32), c_p2_letters, c_p2_sizes) _ _ _ _ h rk_nb1 dX8_accepts_85 hP hD hS
      · have h := rk_nif hc1 h
        refine lv_aload_n hx hb dX8_accepts_17 rfl (lv_at hl 1 rfl) ?_
        refine lv_iload hx hb dX8_accepts_18 (lv_at hl 4 rfl) ?_
        obtain ⟨r_20, hc_20, h⟩ := rk_bd h
        refine rk_i (wr := [(a_p2_letters, .inl (cI, 4, .inl c_p2_letters)), (a_p2_sizes, .inl (cI, 60, .inl c_p2_sizes))]) (va_runSN (As := [.ref a_p1, .int b8_l6]) (rest := []) hF (mtX9_at l D cI cJ cO PL _ a_p1 60 c_p1 b8_l6 r_20 hc_20) ⟨va_cnB 2 htc (rk_gw w_1_52) rfl rfl rfl (hV.2.1 _ nw_3_9) (htc _ w_1_1) (by decide +kernel) ⟨(Nat.le_of_ble_eq_true rfl), (Nat.le_of_ble_eq_true rfl)⟩, htc _ w_1_51, trivial⟩ (rk_preS hP hD hS hR hn hPL hnl hV [] [(false, 1)] rfl (by decide) rfl (by decide)) rfl rfl hl.1 rfl (lv_room (Nat.le_of_ble_eq_true rfl)) dX8_accepts_20 ⟨(Nat.le_of_ble_eq_true rfl), (Nat.le_of_ble_eq_true rfl)⟩) hP hD hS hA hR0 hn [] [0, 1] rfl rfl (by decide) (by decide) (fun H locs hP hD hS hR => ?_)
        have hP : va_P D vwCl [(a_p2_letters, .inl (cI, 4, .inl c_p2_letters)), (a_p2_sizes, .inl (cI, 60, .inl c_p2_sizes))] H := hP
        have hD : va_D A [(a_p2_letters, .inl (cI, 4, .inl c_p2_letters)), (a_p2_sizes, .inl (cI, 60, .inl c_p2_sizes))] := hD
        refine lv_istore (lv' := [(7, .int r_20), (0, .ref a_this), (1, .ref a_p1), (3, .int b8_l3), (4, .long b8_l4), (6, .int b8_l6)]) hx hb dX8_accepts_23 hl (by decide) rfl (fun ls hl => ?_)
        refine lv_iload hx hb dX8_accepts_25 (lv_at hl 0 rfl) ?_
        refine lv_if_lt (tgt := 52) hx hb dX8_accepts_27 (by decide) (fun hc3 => ?_) (fun hc3 => ?_)
        · have h := rk_if hc3 h
          refine lv_iconst (v := 0) hx hb dX8_accepts_52 (by decide) ?_
          exact hret ((0 : Int32), c_p2_letters, c_p2_sizes) _ _ _ _ h rk_nb0 dX8_accepts_53 hP hD hS
        · have h := rk_nif hc3 h
          refine lv_iload hx hb dX8_accepts_30 (lv_at hl 0 rfl) ?_
          refine lv_iconst (v := 2) hx hb dX8_accepts_32 (by decide) ?_
          refine lv_aload_n hx hb dX8_accepts_33 rfl (lv_at hl 1 rfl) ?_
          refine va_get (D := D) (ci := 7) (v := .int f_this_types) (C := RX8) (T := TX8) (N := 5) hx hb htc inX8 hown hV.1 hR 0 rfl rfl 4 (by decide) (htc _ w_2_97) (fun _ h9 => h9) rfl dX8_accepts_34 ?_
          refine lv_imul hx hb dX8_accepts_37 ?_
          refine lv_icmp_ge (tgt := 52) hx hb dX8_accepts_38 (by decide) (fun hc4 => ?_) (fun hc4 => ?_)
          · have h := rk_if hc4 h
            refine lv_iconst (v := 0) hx hb dX8_accepts_52 (by decide) ?_
            exact hret ((0 : Int32), c_p2_letters, c_p2_sizes) _ _ _ _ h rk_nb0 dX8_accepts_53 hP hD hS
          · have h := rk_nif hc4 h
            refine lv_iload hx hb dX8_accepts_41 (lv_at hl 0 rfl) ?_
            refine lv_iload_n hx hb dX8_accepts_43 rfl (lv_at hl 3 rfl) ?_
            refine lv_lload hx hb dX8_accepts_44 (lv_at hl 4 rfl) ?_
            obtain ⟨r_46, hc_46, h⟩ := rk_bd h
            refine rk_i (wr := [(a_p2_letters, .inl (cI, 4, .inl c_p2_letters)), (a_p2_sizes, .inl (cI, 60, .inl c_p2_sizes))]) (va_runS (As := [.int r_20, .int b8_l3, .long b8_l4]) (rest := []) hF (mtX8_mayFollow l D cI cJ cO PL _ r_20 b8_l3 b8_l4 r_46 hc_46) (va_cwS 3 htc (rk_gVS w_2_40 w_2_41 w_1_11 w_2_42) rfl rfl rfl (by decide +kernel) ⟨(Nat.le_of_ble_eq_true rfl), (Nat.le_of_ble_eq_true rfl)⟩) (rk_preS hP hD hS hR hn hPL hnl hV [] [] rfl (by decide) rfl (by decide)) rfl rfl hl.1 rfl (lv_room (Nat.le_of_ble_eq_true rfl)) dX8_accepts_46 ⟨(Nat.le_of_ble_eq_true rfl), (Nat.le_of_ble_eq_true rfl)⟩) hP hD hS hA hR0 hn [] [0, 1] rfl rfl (by decide) (by decide) (fun H locs hP hD hS hR => ?_)
            have hP : va_P D vwCl [(a_p2_letters, .inl (cI, 4, .inl c_p2_letters)), (a_p2_sizes, .inl (cI, 60, .inl c_p2_sizes))] H := hP
            have hD : va_D A [(a_p2_letters, .inl (cI, 4, .inl c_p2_letters)), (a_p2_sizes, .inl (cI, 60, .inl c_p2_sizes))] := hD
            refine lv_if_ne (tgt := 54) hx hb dX8_accepts_49 (by decide) (fun hc5 => ?_) (fun hc5 => ?_)
            · have h := rk_if hc5 h
              refine lv_iload_n hx hb dX8_accepts_54 rfl (lv_at hl 3 rfl) ?_
              refine lv_iload hx hb dX8_accepts_55 (lv_at hl 0 rfl) ?_
              obtain ⟨r_57, hc_57, h⟩ := rk_bd h
              refine rk_i (wr := [(a_p2_letters, .inl (cI, 4, .inl c_p2_letters)), (a_p2_sizes, .inl (cI, 60, .inl c_p2_sizes))]) (va_runS (As := [.int b8_l3, .int r_20]) (rest := []) hF (mtX8_depthAfter l D cI cJ cO PL _ b8_l3 r_20 r_57 hc_57) (va_cwS 2 htc (rk_gVS w_2_46 w_2_47 w_1_11 w_2_48) rfl rfl rfl (by decide +kernel) ⟨(Nat.le_of_ble_eq_true rfl), (Nat.le_of_ble_eq_true rfl)⟩) (rk_preS hP hD hS hR hn hPL hnl hV [] [] rfl (by decide) rfl (by decide)) rfl rfl hl.1 rfl (lv_room (Nat.le_of_ble_eq_true rfl)) dX8_accepts_57 ⟨(Nat.le_of_ble_eq_true rfl), (Nat.le_of_ble_eq_true rfl)⟩) hP hD hS hA hR0 hn [] [0, 1] rfl rfl (by decide) (by decide) (fun H locs hP hD hS hR => ?_)
              have hP : va_P D vwCl [(a_p2_letters, .inl (cI, 4, .inl c_p2_letters)), (a_p2_sizes, .inl (cI, 60, .inl c_p2_sizes))] H := hP
              have hD : va_D A [(a_p2_letters, .inl (cI, 4, .inl c_p2_letters)), (a_p2_sizes, .inl (cI, 60, .inl c_p2_sizes))] := hD
              refine lv_istore_n (lv' := [(3, .int r_57), (7, .int r_20), (0, .ref a_this), (1, .ref a_p1), (4, .long b8_l4), (6, .int b8_l6)]) hx hb dX8_accepts_60 rfl hl (by decide) rfl (fun ls hl => ?_)
              refine lv_lload hx hb dX8_accepts_61 (lv_at hl 4 rfl) ?_
              refine lv_iload hx hb dX8_accepts_63 (lv_at hl 1 rfl) ?_
              obtain ⟨r_65, hc_65, h⟩ := rk_bd h
              refine rk_l (wr := [(a_p2_letters, .inl (cI, 4, .inl c_p2_letters)), (a_p2_sizes, .inl (cI, 60, .inl c_p2_sizes))]) (va_runS (As := [.long b8_l4, .int r_20]) (rest := []) hF (mtX8_openAfter l D cI cJ cO PL _ b8_l4 r_20 r_65 hc_65) (va_cwS 2 htc (rk_gVS w_2_54 w_2_55 w_1_11 w_2_56) rfl rfl rfl (by decide +kernel) ⟨(Nat.le_of_ble_eq_true rfl), (Nat.le_of_ble_eq_true rfl)⟩) (rk_preS hP hD hS hR hn hPL hnl hV [] [] rfl (by decide) rfl (by decide)) rfl rfl hl.1 rfl (lv_room (Nat.le_of_ble_eq_true rfl)) dX8_accepts_65 ⟨(Nat.le_of_ble_eq_true rfl), (Nat.le_of_ble_eq_true rfl)⟩) hP hD hS hA hR0 hn [] [0, 1] rfl rfl (by decide) (by decide) (fun H locs hP hD hS hR => ?_)
              have hP : va_P D vwCl [(a_p2_letters, .inl (cI, 4, .inl c_p2_letters)), (a_p2_sizes, .inl (cI, 60, .inl c_p2_sizes))] H := hP
              have hD : va_D A [(a_p2_letters, .inl (cI, 4, .inl c_p2_letters)), (a_p2_sizes, .inl (cI, 60, .inl c_p2_sizes))] := hD
              refine lv_lstore (lv' := [(4, .long r_65), (3, .int r_57), (7, .int r_20), (0, .ref a_this), (1, .ref a_p1), (6, .int b8_l6)]) hx hb dX8_accepts_68 hl (by decide) rfl (fun ls hl => ?_)
              refine lv_iinc (v := (b8_l6 + 1)) (lv' := [(6, .int (b8_l6 + 1)), (4, .long r_65), (3, .int r_57), (7, .int r_20), (0, .ref a_this), (1, .ref a_p1)]) hx hb dX8_accepts_70 hl (k := 5) rfl rfl (by decide) rfl (fun ls hl => ?_)
              refine lv_goto (tgt := 8) hx hb dX8_accepts_73 (by decide) ?_
              exact ih8 r_57 r_65 (b8_l6 + 1) h _ _ hP hD hS _ (lv_sub hl [4, 5, 2, 1, 0] rfl)
            · have h := rk_nnif hc5 h
              refine lv_iconst (v := 0) hx hb dX8_accepts_52 (by decide) ?_
              exact hret ((0 : Int32), c_p2_letters, c_p2_sizes) _ _ _ _ h rk_nb0 dX8_accepts_53 hP hD hS
  exact L8 FU (0 : Int32) (0 : Int64) (0 : Int32) h _ _ hP hD hS _ (lv_sub hl [3, 4, 2, 1, 0] rfl)
set_option maxHeartbeats 4000000 in
set_option maxRecDepth 100000 in
theorem mtX8_placeOf (l : Launch) (D : va_G) (cI cJ cO : ClassId) (PL : va_W) (sz : Nat) (a_this : Nat) (f_this_number : Int32) (f_this_width : Int32) (f_this_size : Int64) (f_this_pairs : Int32) (f_this_types : Int32) (a_p1 : Nat) (c_p1 : Nat → Int32) (a_p2 : Nat) (a_p2_binomials : Nat) (a_p2_partitionCounts : Nat) (a_p2_treeCounts : Nat) (a_p2_sizes : Nat) (a_p2_starts : Nat) (a_p2_ranks : Nat) (a_p2_letters : Nat) (c_p2_letters : Nat → Int32) (c_p2_ranks : Nat → Int64) (c_p2_sizes : Nat → Int32) (c_p2_binomials : Nat → Int64) (c_p2_partitionCounts : Nat → Int32) (c_p2_treeCounts : Nat → Int64) (r0 : Int64 × (Nat → Int32) × (Nat → Int64) × (Nat → Int32)) (h : fX8_placeOf f_this_width f_this_types c_p1 c_p2_letters c_p2_ranks c_p2_sizes c_p2_binomials = some r0) : Met l yX8_placeOf (rk_w yX8_placeOf cX8_placeOf 11 (some .long)) rmX8_placeOf (va_Pc [.ref a_this, .ref a_p1, .ref a_p2] (rk_B D (rk_TY cI cJ cO) [(a_p2_letters, .inl (cI, 4, .inl c_p2_letters)), (a_p2_ranks, .inl (cJ, 60, .inr (.inl c_p2_ranks))), (a_p2_sizes, .inl (cI, 60, .inl c_p2_sizes))] [(a_this, .inr (7, [.int f_this_number, .int f_this_width, .long f_this_size, .int f_this_pairs, .int f_this_types])), (a_p1, .inl (cI, 60, .inl c_p1)), (a_p2, .inr (2, [.ref a_p2_binomials, .ref a_p2_partitionCounts, .ref a_p2_treeCounts, .ref a_p2_sizes, .ref a_p2_starts, .ref a_p2_ranks, .ref a_p2_letters])), (a_p2_binomials, .inl (cJ, 1891, .inr (.inl c_p2_binomials))), (a_p2_partitionCounts, .inl (cI, 1891, .inl c_p2_partitionCounts)), (a_p2_treeCounts, .inl (cJ, 31, .inr (.inl c_p2_treeCounts)))] PL sz)) (rk_Ql r0.1 D [(a_p2_letters, .inl (cI, 4, .inl r0.2.1)), (a_p2_ranks, .inl (cJ, 60, .inr (.inl r0.2.2.1))), (a_p2_sizes, .inl (cI, 60, .inl r0.2.2.2))] [(a_p2_letters, .inl (cI, 4, .inl c_p2_letters)), (a_p2_ranks, .inl (cJ, 60, .inr (.inl c_p2_ranks))), (a_p2_sizes, .inl (cI, 60, .inl c_p2_sizes))] sz) 0 0 (va_A [(a_p2_letters, .inl (cI, 4, .inl c_p2_letters)), (a_p2_ranks, .inl (cJ, 60, .inr (.inl c_p2_ranks))), (a_p2_sizes, .inl (cI, 60, .inl c_p2_sizes))] sz) := by
  refine rk_metl h (fun x : Int64 × (Nat → Int32) × (Nat → Int64) × (Nat → Int32) => x.1) (fun x => [(a_p2_letters, .inl (cI, 4, .inl x.2.1)), (a_p2_ranks, .inl (cJ, 60, .inr (.inl x.2.2.1))), (a_p2_sizes, .inl (cI, 60, .inl x.2.2.2))]) (by decide) (Nat.le_of_ble_eq_true rfl) ?_
  intro p e s m args below meth c A ls Q hret hname hF hP hD hA hV hR0 hn hPL hnl hl h hS
  have hx := hF.1
  have hb := hF.2.1
  have hml := hF.2.2.1
  have hown : s.vm.findClass RX8 = some m.cls := hF.2.2.2.1
  have htc := hF.2.2.2.2
  have hP : va_P D vwCl [(a_p2_letters, .inl (cI, 4, .inl c_p2_letters)), (a_p2_ranks, .inl (cJ, 60, .inr (.inl c_p2_ranks))), (a_p2_sizes, .inl (cI, 60, .inl c_p2_sizes))] s.heap := hP
  have hD : va_D A [(a_p2_letters, .inl (cI, 4, .inl c_p2_letters)), (a_p2_ranks, .inl (cJ, 60, .inr (.inl c_p2_ranks))), (a_p2_sizes, .inl (cI, 60, .inl c_p2_sizes))] := hD
  have hR0 : va_P D vwCl [(a_this, .inr (7, [.int f_this_number, .int f_this_width, .long f_this_size, .int f_this_pairs, .int f_this_types])), (a_p1, .inl (cI, 60, .inl c_p1)), (a_p2, .inr (2, [.ref a_p2_binomials, .ref a_p2_partitionCounts, .ref a_p2_treeCounts, .ref a_p2_sizes, .ref a_p2_starts, .ref a_p2_ranks, .ref a_p2_letters])), (a_p2_binomials, .inl (cJ, 1891, .inr (.inl c_p2_binomials))), (a_p2_partitionCounts, .inl (cI, 1891, .inl c_p2_partitionCounts)), (a_p2_treeCounts, .inl (cJ, 31, .inr (.inl c_p2_treeCounts)))] s.heap := hR0
  have hR := hR0
  have hl : lv_has ls 11 [(0, .ref a_this), (1, .ref a_p1), (2, .ref a_p2)] := hl
  unfold fX8_placeOf at h
  refine lv_lconst (v := 0) hx hb dX8_placeOf_0 (by decide) ?_
  refine lv_lstore_n (lv' := [(3, .long (0 : Int64)), (0, .ref a_this), (1, .ref a_p1), (2, .ref a_p2)]) hx hb dX8_placeOf_1 rfl hl (by decide) rfl (fun ls hl => ?_)
  refine lv_iconst (v := 0) hx hb dX8_placeOf_2 (by decide) ?_
  refine lv_istore (lv' := [(5, .int (0 : Int32)), (3, .long (0 : Int64)), (0, .ref a_this), (1, .ref a_p1), (2, .ref a_p2)]) hx hb dX8_placeOf_3 hl (by decide) rfl (fun ls hl => ?_)
  refine lv_lconst (v := 0) hx hb dX8_placeOf_5 (by decide) ?_
  refine lv_lstore (lv' := [(6, .long (0 : Int64)), (5, .int (0 : Int32)), (3, .long (0 : Int64)), (0, .ref a_this), (1, .ref a_p1), (2, .ref a_p2)]) hx hb dX8_placeOf_6 hl (by decide) rfl (fun ls hl => ?_)
  refine lv_iconst (v := 0) hx hb dX8_placeOf_8 (by decide) ?_
  refine lv_istore (lv' := [(8, .int (0 : Int32)), (6, .long (0 : Int64)), (5, .int (0 : Int32)), (3, .long (0 : Int64)), (0, .ref a_this), (1, .ref a_p1), (2, .ref a_p2)]) hx hb dX8_placeOf_9 hl (by decide) rfl (fun ls hl => ?_)
  have L11 : ∀ (n11 : Nat) (b11_l3 : Int64) (b11_l5 : Int32) (b11_l6 : Int64) (b11_l8 : Int32), rk_it4 (fX8_placeOf_L11 f_this_width f_this_types c_p1 c_p2_letters c_p2_ranks c_p2_sizes c_p2_binomials) n11 b11_l3 b11_l5 b11_l6 b11_l8 = some r0 → ∀ (H : Heap) (locs : List Loc), va_P D vwCl [(a_p2_letters, .inl (cI, 4, .inl c_p2_letters)), (a_p2_ranks, .inl (cJ, 60, .inr (.inl c_p2_ranks))), (a_p2_sizes, .inl (cI, 60, .inl c_p2_sizes))] H → va_D A [(a_p2_letters, .inl (cI, 4, .inl c_p2_letters)), (a_p2_ranks, .inl (cJ, 60, .inr (.inl c_p2_ranks))), (a_p2_sizes, .inl (cI, 60, .inl c_p2_sizes))] → va_S A s.heap H locs → ∀ (ls : Array Slot), lv_has ls 11 [(0, .ref a_this), (1, .ref a_p1), (2, .ref a_p2), (3, .long b11_l3), (5, .int b11_l5), (6, .long b11_l6), (8, .int b11_l8)] → W p l e rmX8_placeOf s m args below meth c H locs 0 0 Q (F0 m 11 ls []) := by
    intro n11
    induction n11 with
    | zero => intro b11_l3 b11_l5 b11_l6 b11_l8 h; exact rk_no h
    | succ n11 ih11 =>
      intro b11_l3 b11_l5 b11_l6 b11_l8 h H locs hP hD hS ls hl
      have h : fX8_placeOf_L11 f_this_width f_this_types c_p1 c_p2_letters c_p2_ranks c_p2_sizes c_p2_binomials (rk_it4 (fX8_placeOf_L11 f_this_width f_this_types c_p1 c_p2_letters c_p2_ranks c_p2_sizes c_p2_binomials) n11) b11_l3 b11_l5 b11_l6 b11_l8 = some r0 := h
      unfold fX8_placeOf_L11 at h
      have hR := rk_keep hR0 hn hS
      refine lv_iload hx hb dX8_placeOf_11 (lv_at hl 6 rfl) ?_
      refine lv_aload_n hx hb dX8_placeOf_13 rfl (lv_at hl 0 rfl) ?_
      refine va_get (D := D) (ci := 7) (v := .int f_this_width) (C := RX8) (T := TX8) (N := 5) hx hb htc inX8 hown hV.1 hR 0 rfl rfl 1 (by decide) (htc _ w_1_133) (fun _ h9 => u_same (htc _ w_1_134) _ h9) rfl dX8_placeOf_14 ?_
      refine lv_icmp_ge (tgt := 84) hx hb dX8_placeOf_17 (by decide) (fun hc1 => ?_) (fun hc1 => ?_)
      · have h := rk_if hc1 h
        refine lv_lload_n hx hb dX8_placeOf_84 rfl (lv_at hl 3 rfl) ?_
        exact hret (b11_l3, c_p2_letters, c_p2_ranks, c_p2_sizes) _ _ _ _ h dX8_placeOf_85 hP hD hS
      · have h := rk_nif hc1 h
        refine lv_aload_n hx hb dX8_placeOf_20 rfl (lv_at hl 1 rfl) ?_
        refine lv_iload hx hb dX8_placeOf_21 (lv_at hl 6 rfl) ?_
        obtain ⟨r_23, hc_23, h⟩ := rk_bd h
        refine rk_i (wr := [(a_p2_letters, .inl (cI, 4, .inl c_p2_letters)), (a_p2_ranks, .inl (cJ, 60, .inr (.inl c_p2_ranks))), (a_p2_sizes, .inl (cI, 60, .inl c_p2_sizes))]) (va_runSN (As := [.ref a_p1, .int b11_l8]) (rest := []) hF (mtX9_at l D cI cJ cO PL _ a_p1 60 c_p1 b11_l8 r_23 hc_23) ⟨va_cnB 2 htc (rk_gw w_1_52) rfl rfl rfl (hV.2.1 _ nw_3_9) (htc _ w_1_1) (by decide +kernel) ⟨(Nat.le_of_ble_eq_true rfl), (Nat.le_of_ble_eq_true rfl)⟩, htc _ w_1_51, trivial⟩ (rk_preS hP hD hS hR hn hPL hnl hV [] [(false, 1)] rfl (by decide) rfl (by decide)) rfl rfl hl.1 rfl (lv_room (Nat.le_of_ble_eq_true rfl)) dX8_placeOf_23 ⟨(Nat.le_of_ble_eq_true rfl), (Nat.le_of_ble_eq_true rfl)⟩) hP hD hS hA hR0 hn [] [0, 1, 2] rfl rfl (by decide) (by decide) (fun H locs hP hD hS hR => ?_)
        have hP : va_P D vwCl [(a_p2_letters, .inl (cI, 4, .inl c_p2_letters)), (a_p2_ranks, .inl (cJ, 60, .inr (.inl c_p2_ranks))), (a_p2_sizes, .inl (cI, 60, .inl c_p2_sizes))] H := hP
        have hD : va_D A [(a_p2_letters, .inl (cI, 4, .inl c_p2_letters)), (a_p2_ranks, .inl (cJ, 60, .inr (.inl c_p2_ranks))), (a_p2_sizes, .inl (cI, 60, .inl c_p2_sizes))] := hD
        refine lv_istore (lv' := [(9, .int r_23), (0, .ref a_this), (1, .ref a_p1), (2, .ref a_p2), (3, .long b11_l3), (5, .int b11_l5), (6, .long b11_l6), (8, .int b11_l8)]) hx hb dX8_placeOf_26 hl (by decide) rfl (fun ls hl => ?_)
        refine lv_iconst (v := 0) hx hb dX8_placeOf_28 (by decide) ?_
        refine lv_istore (lv' := [(10, .int (0 : Int32)), (9, .int r_23), (0, .ref a_this), (1, .ref a_p1), (2, .ref a_p2), (3, .long b11_l3), (5, .int b11_l5), (6, .long b11_l6), (8, .int b11_l8)]) hx hb dX8_placeOf_29 hl (by decide) rfl (fun ls hl => ?_)
        have L31 : ∀ (n31 : Nat) (b31_l3 : Int64) (b31_l10 : Int32), rk_it2 (fX8_placeOf_L31 f_this_width f_this_types c_p2_binomials b11_l5 b11_l6 b11_l8 (rk_it4 (fX8_placeOf_L11 f_this_width f_this_types c_p1 c_p2_letters c_p2_ranks c_p2_sizes c_p2_binomials) n11) r_23) n31 b31_l3 b31_l10 = some r0 → ∀ (H : Heap) (locs : List Loc), va_P D vwCl [(a_p2_letters, .inl (cI, 4, .inl c_p2_letters)), (a_p2_ranks, .inl (cJ, 60, .inr (.inl c_p2_ranks))), (a_p2_sizes, .inl (cI, 60, .inl c_p2_sizes))] H → va_D A [(a_p2_letters, .inl (cI, 4, .inl c_p2_letters)), (a_p2_ranks, .inl (cJ, 60, .inr (.inl c_p2_ranks))), (a_p2_sizes, .inl (cI, 60, .inl c_p2_sizes))] → va_S A s.heap H locs → ∀ (ls : Array Slot), lv_has ls 11 [(0, .ref a_this), (1, .ref a_p1), (2, .ref a_p2), (3, .long b31_l3), (5, .int b11_l5), (6, .long b11_l6), (8, .int b11_l8), (9, .int r_23), (10, .int b31_l10)] → W p l e rmX8_placeOf s m args below meth c H locs 0 0 Q (F0 m 31 ls []) := by
          intro n31
          induction n31 with
          | zero => intro b31_l3 b31_l10 h; exact rk_no h
          | succ n31 ih31 =>
            intro b31_l3 b31_l10 h H locs hP hD hS ls hl
            have h : fX8_placeOf_L31 f_this_width f_this_types c_p2_binomials b11_l5 b11_l6 b11_l8 (rk_it4 (fX8_placeOf_L11 f_this_width f_this_types c_p1 c_p2_letters c_p2_ranks c_p2_sizes c_p2_binomials) n11) r_23 (rk_it2 (fX8_placeOf_L31 f_this_width f_this_types c_p2_binomials b11_l5 b11_l6 b11_l8 (rk_it4 (fX8_placeOf_L11 f_this_width f_this_types c_p1 c_p2_letters c_p2_ranks c_p2_sizes c_p2_binomials) n11) r_23) n31) b31_l3 b31_l10 = some r0 := h
            unfold fX8_placeOf_L31 at h
            have hR := rk_keep hR0 hn hS
            refine lv_iload hx hb dX8_placeOf_31 (lv_at hl 8 rfl) ?_
            refine lv_iload hx hb dX8_placeOf_33 (lv_at hl 7 rfl) ?_
            refine lv_icmp_ge (tgt := 60) hx hb dX8_placeOf_35 (by decide) (fun hc2 => ?_) (fun hc2 => ?_)
            · have h := rk_if hc2 h
              refine lv_iload hx hb dX8_placeOf_60 (lv_at hl 4 rfl) ?_
              refine lv_iload hx hb dX8_placeOf_62 (lv_at hl 7 rfl) ?_
              obtain ⟨r_64, hc_64, h⟩ := rk_bd h
              refine rk_i (wr := [(a_p2_letters, .inl (cI, 4, .inl c_p2_letters)), (a_p2_ranks, .inl (cJ, 60, .inr (.inl c_p2_ranks))), (a_p2_sizes, .inl (cI, 60, .inl c_p2_sizes))]) (va_runS (As := [.int b11_l5, .int r_23]) (rest := []) hF (mtX8_depthAfter l D cI cJ cO PL _ b11_l5 r_23 r_64 hc_64) (va_cwS 2 htc (rk_gVS w_2_46 w_2_47 w_1_11 w_2_48) rfl rfl rfl (by decide +kernel) ⟨(Nat.le_of_ble_eq_true rfl), (Nat.le_of_ble_eq_true rfl)⟩) (rk_preS hP hD hS hR hn hPL hnl hV [] [] rfl (by decide) rfl (by decide)) rfl rfl hl.1 rfl (lv_room (Nat.le_of_ble_eq_true rfl)) dX8_placeOf_64 ⟨(Nat.le_of_ble_eq_true rfl), (Nat.le_of_ble_eq_true rfl)⟩) hP hD hS hA hR0 hn [] [0, 1, 2] rfl rfl (by decide) (by decide) (fun H locs hP hD hS hR => ?_)
              have hP : va_P D vwCl [(a_p2_letters, .inl (cI, 4, .inl c_p2_letters)), (a_p2_ranks, .inl (cJ, 60, .inr (.inl c_p2_ranks))), (a_p2_sizes, .inl (cI, 60, .inl c_p2_sizes))] H := hP
              have hD : va_D A [(a_p2_letters, .inl (cI, 4, .inl c_p2_letters)), (a_p2_ranks, .inl (cJ, 60, .inr (.inl c_p2_ranks))), (a_p2_sizes, .inl (cI, 60, .inl c_p2_sizes))] := hD
              refine lv_istore (lv' := [(5, .int r_64), (0, .ref a_this), (1, .ref a_p1), (2, .ref a_p2), (3, .long b31_l3), (6, .long b11_l6), (8, .int b11_l8), (9, .int r_23), (10, .int b31_l10)]) hx hb dX8_placeOf_67 hl (by decide) rfl (fun ls hl => ?_)
              refine lv_lload hx hb dX8_placeOf_69 (lv_at hl 5 rfl) ?_
              refine lv_iload hx hb dX8_placeOf_71 (lv_at hl 7 rfl) ?_
              obtain ⟨r_73, hc_73, h⟩ := rk_bd h
              refine rk_l (wr := [(a_p2_letters, .inl (cI, 4, .inl c_p2_letters)), (a_p2_ranks, .inl (cJ, 60, .inr (.inl c_p2_ranks))), (a_p2_sizes, .inl (cI, 60, .inl c_p2_sizes))]) (va_runS (As := [.long b11_l6, .int r_23]) (rest := []) hF (mtX8_openAfter l D cI cJ cO PL _ b11_l6 r_23 r_73 hc_73) (va_cwS 2 htc (rk_gVS w_2_54 w_2_55 w_1_11 w_2_56) rfl rfl rfl (by decide +kernel) ⟨(Nat.le_of_ble_eq_true rfl), (Nat.le_of_ble_eq_true rfl)⟩) (rk_preS hP hD hS hR hn hPL hnl hV [] [] rfl (by decide) rfl (by decide)) rfl rfl hl.1 rfl (lv_room (Nat.le_of_ble_eq_true rfl)) dX8_placeOf_73 ⟨(Nat.le_of_ble_eq_true rfl), (Nat.le_of_ble_eq_true rfl)⟩) hP hD hS hA hR0 hn [] [0, 1, 2] rfl rfl (by decide) (by decide) (fun H locs hP hD hS hR => ?_)
              have hP : va_P D vwCl [(a_p2_letters, .inl (cI, 4, .inl c_p2_letters)), (a_p2_ranks, .inl (cJ, 60, .inr (.inl c_p2_ranks))), (a_p2_sizes, .inl (cI, 60, .inl c_p2_sizes))] H := hP
              have hD : va_D A [(a_p2_letters, .inl (cI, 4, .inl c_p2_letters)), (a_p2_ranks, .inl (cJ, 60, .inr (.inl c_p2_ranks))), (a_p2_sizes, .inl (cI, 60, .inl c_p2_sizes))] := hD
              refine lv_lstore (lv' := [(6, .long r_73), (5, .int r_64), (0, .ref a_this), (1, .ref a_p1), (2, .ref a_p2), (3, .long b31_l3), (8, .int b11_l8), (9, .int r_23), (10, .int b31_l10)]) hx hb dX8_placeOf_76 hl (by decide) rfl (fun ls hl => ?_)
              refine lv_iinc (v := (b11_l8 + 1)) (lv' := [(8, .int (b11_l8 + 1)), (6, .long r_73), (5, .int r_64), (0, .ref a_this), (1, .ref a_p1), (2, .ref a_p2), (3, .long b31_l3), (9, .int r_23), (10, .int b31_l10)]) hx hb dX8_placeOf_78 hl (k := 6) rfl rfl (by decide) rfl (fun ls hl => ?_)
              refine lv_goto (tgt := 11) hx hb dX8_placeOf_81 (by decide) ?_
              exact ih11 b31_l3 r_64 r_73 (b11_l8 + 1) h _ _ hP hD hS _ (lv_sub hl [3, 4, 5, 6, 2, 1, 0] rfl)
            · have h := rk_nif hc2 h
              refine lv_lload_n hx hb dX8_placeOf_38 rfl (lv_at hl 3 rfl) ?_
              refine lv_aload_n hx hb dX8_placeOf_39 rfl (lv_at hl 0 rfl) ?_
              refine lv_iload hx hb dX8_placeOf_40 (lv_at hl 8 rfl) ?_
              refine lv_iload hx hb dX8_placeOf_42 (lv_at hl 6 rfl) ?_
              refine lv_iload hx hb dX8_placeOf_44 (lv_at hl 4 rfl) ?_
              refine lv_lload hx hb dX8_placeOf_46 (lv_at hl 5 rfl) ?_
              refine lv_aload_n hx hb dX8_placeOf_48 rfl (lv_at hl 2 rfl) ?_
              obtain ⟨r_49, hc_49, h⟩ := rk_bd h
              refine rk_l (wr := [(a_p2_letters, .inl (cI, 4, .inl c_p2_letters)), (a_p2_ranks, .inl (cJ, 60, .inr (.inl c_p2_ranks))), (a_p2_sizes, .inl (cI, 60, .inl c_p2_sizes))]) (va_runV (C := RX8) (As := [.int b31_l10, .int b11_l8, .int b11_l5, .long b11_l6, .ref a_p2]) (rest := [.long b31_l3]) hF (mtX8_waysAfter l D cI cJ cO PL _ a_this f_this_number f_this_width f_this_size f_this_pairs f_this_types a_p2 a_p2_binomials a_p2_partitionCounts a_p2_treeCounts a_p2_sizes a_p2_starts a_p2_ranks a_p2_letters c_p2_binomials b31_l10 b11_l8 b11_l5 b11_l6 r_49 hc_49) (cwV 5 htc (rk_gV w_2_35 w_2_37 ws_10 w_1_11 w_2_39) rfl rfl rfl (by decide +kernel) ⟨(Nat.le_of_ble_eq_true rfl), (Nat.le_of_ble_eq_true rfl)⟩) (rk_preV (va_recv hV.1 hR (ci := 7) (q0 := 0) rfl rfl) (rk_preS hP hD hS hR hn hPL hnl hV [] [(false, 0), (false, 2), (false, 3)] rfl (by decide) rfl (by decide))) rfl rfl hl.1 rfl (lv_room (Nat.le_of_ble_eq_true rfl)) dX8_placeOf_49 ⟨(Nat.le_of_ble_eq_true rfl), (Nat.le_of_ble_eq_true rfl)⟩) hP hD hS hA hR0 hn [] [0, 1, 2] rfl rfl (by decide) (by decide) (fun H locs hP hD hS hR => ?_)
              have hP : va_P D vwCl [(a_p2_letters, .inl (cI, 4, .inl c_p2_letters)), (a_p2_ranks, .inl (cJ, 60, .inr (.inl c_p2_ranks))), (a_p2_sizes, .inl (cI, 60, .inl c_p2_sizes))] H := hP
              have hD : va_D A [(a_p2_letters, .inl (cI, 4, .inl c_p2_letters)), (a_p2_ranks, .inl (cJ, 60, .inr (.inl c_p2_ranks))), (a_p2_sizes, .inl (cI, 60, .inl c_p2_sizes))] := hD
              refine lv_ladd hx hb dX8_placeOf_52 ?_
              refine lv_lstore_n (lv' := [(3, .long (b31_l3 + r_49)), (0, .ref a_this), (1, .ref a_p1), (2, .ref a_p2), (5, .int b11_l5), (6, .long b11_l6), (8, .int b11_l8), (9, .int r_23), (10, .int b31_l10)]) hx hb dX8_placeOf_53 rfl hl (by decide) rfl (fun ls hl => ?_)
              refine lv_iinc (v := (b31_l10 + 1)) (lv' := [(10, .int (b31_l10 + 1)), (3, .long (b31_l3 + r_49)), (0, .ref a_this), (1, .ref a_p1), (2, .ref a_p2), (5, .int b11_l5), (6, .long b11_l6), (8, .int b11_l8), (9, .int r_23)]) hx hb dX8_placeOf_54 hl (k := 8) rfl rfl (by decide) rfl (fun ls hl => ?_)
              refine lv_goto (tgt := 31) hx hb dX8_placeOf_57 (by decide) ?_
              exact ih31 (b31_l3 + r_49) (b31_l10 + 1) h _ _ hP hD hS _ (lv_sub hl [2, 3, 4, 1, 5, 6, 7, 8, 0] rfl)
        exact L31 FU b11_l3 (0 : Int32) h _ _ hP hD hS _ (lv_sub hl [2, 3, 4, 5, 6, 7, 8, 1, 0] rfl)
  exact L11 FU (0 : Int64) (0 : Int32) (0 : Int64) (0 : Int32) h _ _ hP hD hS _ (lv_sub hl [4, 5, 6, 3, 2, 1, 0] rfl)
set_option maxHeartbeats 4000000 in
set_option maxRecDepth 100000 in
theorem mtX8_lay (l : Launch) (D : va_G) (cI cJ cO : ClassId) (PL : va_W) (sz : Nat) (a_p3 : Nat) (c_p3 : Nat → Int32) (a_this : Nat) (f_this_number : Int32) (f_this_width : Int32) (f_this_size : Int64) (f_this_pairs : Int32) (f_this_types : Int32) (a_p4 : Nat) (a_p4_binomials : Nat) (a_p4_partitionCounts : Nat) (a_p4_treeCounts : Nat) (a_p4_sizes : Nat) (a_p4_starts : Nat) (a_p4_ranks : Nat) (a_p4_letters : Nat) (c_p4_letters : Nat → Int32) (c_p4_ranks : Nat → Int64) (c_p4_sizes : Nat → Int32) (c_p4_binomials : Nat → Int64) (c_p4_partitionCounts : Nat → Int32) (c_p4_treeCounts : Nat → Int64) (v_p1 : Int64) (r0 : (Nat → Int32) × (Nat → Int32) × (Nat → Int64) × (Nat → Int32)) (h : fX8_lay c_p3 f_this_width f_this_types c_p4_letters c_p4_ranks c_p4_sizes c_p4_binomials v_p1 = some r0) : Met l yX8_lay (rk_w yX8_lay cX8_lay 15 none) rmX8_lay (va_Pc [.ref a_this, .long v_p1, .ref a_p3, .ref a_p4] (rk_B D (rk_TY cI cJ cO) [(a_p3, .inl (cI, 60, .inl c_p3)), (a_p4_letters, .inl (cI, 4, .inl c_p4_letters)), (a_p4_ranks, .inl (cJ, 60, .inr (.inl c_p4_ranks))), (a_p4_sizes, .inl (cI, 60, .inl c_p4_sizes))] [(a_this, .inr (7, [.int f_this_number, .int f_this_width, .long f_this_size, .int f_this_pairs, .int f_this_types])), (a_p4, .inr (2, [.ref a_p4_binomials, .ref a_p4_partitionCounts, .ref a_p4_treeCounts, .ref a_p4_sizes, .ref a_p4_starts, .ref a_p4_ranks, .ref a_p4_letters])), (a_p4_binomials, .inl (cJ, 1891, .inr (.inl c_p4_binomials))), (a_p4_partitionCounts, .inl (cI, 1891, .inl c_p4_partitionCounts)), (a_p4_treeCounts, .inl (cJ, 31, .inr (.inl c_p4_treeCounts)))] PL sz)) (rk_Qv D [(a_p3, .inl (cI, 60, .inl r0.1)), (a_p4_letters, .inl (cI, 4, .inl r0.2.1)), (a_p4_ranks, .inl (cJ, 60, .inr (.inl r0.2.2.1))), (a_p4_sizes, .inl (cI, 60, .inl r0.2.2.2))] [(a_p3, .inl (cI, 60, .inl c_p3)), (a_p4_letters, .inl (cI, 4, .inl c_p4_letters)), (a_p4_ranks, .inl (cJ, 60, .inr (.inl c_p4_ranks))), (a_p4_sizes, .inl (cI, 60, .inl c_p4_sizes))] sz) 0 0 (va_A [(a_p3, .inl (cI, 60, .inl c_p3)), (a_p4_letters, .inl (cI, 4, .inl c_p4_letters)), (a_p4_ranks, .inl (cJ, 60, .inr (.inl c_p4_ranks))), (a_p4_sizes, .inl (cI, 60, .inl c_p4_sizes))] sz) := by
  refine rk_metv h (fun x => [(a_p3, .inl (cI, 60, .inl x.1)), (a_p4_letters, .inl (cI, 4, .inl x.2.1)), (a_p4_ranks, .inl (cJ, 60, .inr (.inl x.2.2.1))), (a_p4_sizes, .inl (cI, 60, .inl x.2.2.2))]) (by decide) (Nat.le_of_ble_eq_true rfl) ?_
  intro p e s m args below meth c A ls Q hret hname hF hP hD hA hV hR0 hn hPL hnl hl h hS
  have hx := hF.1
  have hb := hF.2.1
  have hml := hF.2.2.1
  have hown : s.vm.findClass RX8 = some m.cls := hF.2.2.2.1
  have htc := hF.2.2.2.2
  have hP : va_P D vwCl [(a_p3, .inl (cI, 60, .inl c_p3)), (a_p4_letters, .inl (cI, 4, .inl c_p4_letters)), (a_p4_ranks, .inl (cJ, 60, .inr (.inl c_p4_ranks))), (a_p4_sizes, .inl (cI, 60, .inl c_p4_sizes))] s.heap := hP
  have hD : va_D A [(a_p3, .inl (cI, 60, .inl c_p3)), (a_p4_letters, .inl (cI, 4, .inl c_p4_letters)), (a_p4_ranks, .inl (cJ, 60, .inr (.inl c_p4_ranks))), (a_p4_sizes, .inl (cI, 60, .inl c_p4_sizes))] := hD
  have hR0 : va_P D vwCl [(a_this, .inr (7, [.int f_this_number, .int f_this_width, .long f_this_size, .int f_this_pairs, .int f_this_types])), (a_p4, .inr (2, [.ref a_p4_binomials, .ref a_p4_partitionCounts, .ref a_p4_treeCounts, .ref a_p4_sizes, .ref a_p4_starts, .ref a_p4_ranks, .ref a_p4_letters])), (a_p4_binomials, .inl (cJ, 1891, .inr (.inl c_p4_binomials))), (a_p4_partitionCounts, .inl (cI, 1891, .inl c_p4_partitionCounts)), (a_p4_treeCounts, .inl (cJ, 31, .inr (.inl c_p4_treeCounts)))] s.heap := hR0
  have hR := hR0
  have hl : lv_has ls 15 [(0, .ref a_this), (1, .long v_p1), (3, .ref a_p3), (4, .ref a_p4)] := hl
  unfold fX8_lay at h
  refine lv_lload_n hx hb dX8_lay_0 rfl (lv_at hl 1 rfl) ?_
  refine lv_lstore (lv' := [(5, .long v_p1), (0, .ref a_this), (1, .long v_p1), (3, .ref a_p3), (4, .ref a_p4)]) hx hb dX8_lay_1 hl (by decide) rfl (fun ls hl => ?_)
  refine lv_iconst (v := 0) hx hb dX8_lay_3 (by decide) ?_
  refine lv_istore (lv' := [(7, .int (0 : Int32)), (5, .long v_p1), (0, .ref a_this), (1, .long v_p1), (3, .ref a_p3), (4, .ref a_p4)]) hx hb dX8_lay_4 hl (by decide) rfl (fun ls hl => ?_)
  refine lv_lconst (v := 0) hx hb dX8_lay_6 (by decide) ?_
  refine lv_lstore (lv' := [(8, .long (0 : Int64)), (7, .int (0 : Int32)), (5, .long v_p1), (0, .ref a_this), (1, .long v_p1), (3, .ref a_p3), (4, .ref a_p4)]) hx hb dX8_lay_7 hl (by decide) rfl (fun ls hl => ?_)
  refine lv_iconst (v := 0) hx hb dX8_lay_9 (by decide) ?_
  refine lv_istore (lv' := [(10, .int (0 : Int32)), (8, .long (0 : Int64)), (7, .int (0 : Int32)), (5, .long v_p1), (0, .ref a_this), (1, .long v_p1), (3, .ref a_p3), (4, .ref a_p4)]) hx hb dX8_lay_10 hl (by decide) rfl (fun ls hl => ?_)
  have L12 : ∀ (n12 : Nat) (b12_l5 : Int64) (b12_l7 : Int32) (b12_l8 : Int64) (b12_l10 : Int32) (b12_c_p3 : Nat → Int32), rk_it5 (fX8_lay_L12 f_this_width f_this_types c_p4_letters c_p4_ranks c_p4_sizes c_p4_binomials) n12 b12_l5 b12_l7 b12_l8 b12_l10 b12_c_p3 = some r0 → ∀ (H : Heap) (locs : List Loc), va_P D vwCl [(a_p3, .inl (cI, 60, .inl b12_c_p3)), (a_p4_letters, .inl (cI, 4, .inl c_p4_letters)), (a_p4_ranks, .inl (cJ, 60, .inr (.inl c_p4_ranks))), (a_p4_sizes, .inl (cI, 60, .inl c_p4_sizes))] H → va_D A [(a_p3, .inl (cI, 60, .inl b12_c_p3)), (a_p4_letters, .inl (cI, 4, .inl c_p4_letters)), (a_p4_ranks, .inl (cJ, 60, .inr (.inl c_p4_ranks))), (a_p4_sizes, .inl (cI, 60, .inl c_p4_sizes))] → va_S A s.heap H locs → ∀ (ls : Array Slot), lv_has ls 15 [(0, .ref a_this), (3, .ref a_p3), (4, .ref a_p4), (5, .long b12_l5), (7, .int b12_l7), (8, .long b12_l8), (10, .int b12_l10)] → W p l e rmX8_lay s m args below meth c H locs 0 0 Q (F0 m 12 ls []) := by
    intro n12
    induction n12 with
    | zero => intro b12_l5 b12_l7 b12_l8 b12_l10 b12_c_p3 h; exact rk_no h
    | succ n12 ih12 =>
      intro b12_l5 b12_l7 b12_l8 b12_l10 b12_c_p3 h H locs hP hD hS ls hl
      have h : fX8_lay_L12 f_this_width f_this_types c_p4_letters c_p4_ranks c_p4_sizes c_p4_binomials (rk_it5 (fX8_lay_L12 f_this_width f_this_types c_p4_letters c_p4_ranks c_p4_sizes c_p4_binomials) n12) b12_l5 b12_l7 b12_l8 b12_l10 b12_c_p3 = some r0 := h
      unfold fX8_lay_L12 at h
      have hR := rk_keep hR0 hn hS
      refine lv_iload hx hb dX8_lay_12 (lv_at hl 6 rfl) ?_
      refine lv_aload_n hx hb dX8_lay_14 rfl (lv_at hl 0 rfl) ?_
      refine va_get (D := D) (ci := 7) (v := .int f_this_width) (C := RX8) (T := TX8) (N := 5) hx hb htc inX8 hown hV.1 hR 0 rfl rfl 1 (by decide) (htc _ w_1_133) (fun _ h9 => u_same (htc _ w_1_134) _ h9) rfl dX8_lay_15 ?_
      refine lv_icmp_ge (tgt := 118) hx hb dX8_lay_18 (by decide) (fun hc1 => ?_) (fun hc1 => ?_)
      · have h := rk_if hc1 h
        exact hret (b12_c_p3, c_p4_letters, c_p4_ranks, c_p4_sizes) _ _ _ _ h dX8_lay_118 hP hD hS
      · have h := rk_nif hc1 h
        refine lv_iconst (v := 0) hx hb dX8_lay_21 (by decide) ?_
        refine lv_istore (lv' := [(11, .int (0 : Int32)), (0, .ref a_this), (3, .ref a_p3), (4, .ref a_p4), (5, .long b12_l5), (7, .int b12_l7), (8, .long b12_l8), (10, .int b12_l10)]) hx hb dX8_lay_22 hl (by decide) rfl (fun ls hl => ?_)
        refine lv_iconst (v := 0) hx hb dX8_lay_24 (by decide) ?_
        refine lv_istore (lv' := [(12, .int (0 : Int32)), (11, .int (0 : Int32)), (0, .ref a_this), (3, .ref a_p3), (4, .ref a_p4), (5, .long b12_l5), (7, .int b12_l7), (8, .long b12_l8), (10, .int b12_l10)]) hx hb dX8_lay_25 hl (by decide) rfl (fun ls hl => ?_)
        have L27 : ∀ (n27 : Nat) (b27_l5 : Int64) (b27_l11 : Int32) (b27_l12 : Int32), rk_it3 (fX8_lay_L27 f_this_width f_this_types c_p4_binomials b12_l7 b12_l8 b12_l10 b12_c_p3 (rk_it5 (fX8_lay_L12 f_this_width f_this_types c_p4_letters c_p4_ranks c_p4_sizes c_p4_binomials) n12)) n27 b27_l5 b27_l11 b27_l12 = some r0 → ∀ (H : Heap) (locs : List Loc), va_P D vwCl [(a_p3, .inl (cI, 60, .inl b12_c_p3)), (a_p4_letters, .inl (cI, 4, .inl c_p4_letters)), (a_p4_ranks, .inl (cJ, 60, .inr (.inl c_p4_ranks))), (a_p4_sizes, .inl (cI, 60, .inl c_p4_sizes))] H → va_D A [(a_p3, .inl (cI, 60, .inl b12_c_p3)), (a_p4_letters, .inl (cI, 4, .inl c_p4_letters)), (a_p4_ranks, .inl (cJ, 60, .inr (.inl c_p4_ranks))), (a_p4_sizes, .inl (cI, 60, .inl c_p4_sizes))] → va_S A s.heap H locs → ∀ (ls : Array Slot), lv_has ls 15 [(0, .ref a_this), (3, .ref a_p3), (4, .ref a_p4), (5, .long b27_l5), (7, .int b12_l7), (8, .long b12_l8), (10, .int b12_l10), (11, .int b27_l11), (12, .int b27_l12)] → W p l e rmX8_lay s m args below meth c H locs 0 0 Q (F0 m 27 ls []) := by
          intro n27
          induction n27 with
          | zero => intro b27_l5 b27_l11 b27_l12 h; exact rk_no h
          | succ n27 ih27 =>
            intro b27_l5 b27_l11 b27_l12 h H locs hP hD hS ls hl
            have h : fX8_lay_L27 f_this_width f_this_types c_p4_binomials b12_l7 b12_l8 b12_l10 b12_c_p3 (rk_it5 (fX8_lay_L12 f_this_width f_this_types c_p4_letters c_p4_ranks c_p4_sizes c_p4_binomials) n12) (rk_it3 (fX8_lay_L27 f_this_width f_this_types c_p4_binomials b12_l7 b12_l8 b12_l10 b12_c_p3 (rk_it5 (fX8_lay_L12 f_this_width f_this_types c_p4_letters c_p4_ranks c_p4_sizes c_p4_binomials) n12)) n27) b27_l5 b27_l11 b27_l12 = some r0 := h
            unfold fX8_lay_L27 at h
            have hR := rk_keep hR0 hn hS
            refine lv_iload hx hb dX8_lay_27 (lv_at hl 8 rfl) ?_
            refine lv_iconst (v := 2) hx hb dX8_lay_29 (by decide) ?_
            refine lv_aload_n hx hb dX8_lay_30 rfl (lv_at hl 0 rfl) ?_
            refine va_get (D := D) (ci := 7) (v := .int f_this_types) (C := RX8) (T := TX8) (N := 5) hx hb htc inX8 hown hV.1 hR 0 rfl rfl 4 (by decide) (htc _ w_2_97) (fun _ h9 => h9) rfl dX8_lay_31 ?_
            refine lv_imul hx hb dX8_lay_34 ?_
            refine lv_iconst (v := 1) hx hb dX8_lay_35 (by decide) ?_
            refine lv_isub hx hb dX8_lay_36 ?_
            have B86 : fX8_lay_B86 b12_l7 b12_l8 b12_l10 b12_c_p3 (rk_it5 (fX8_lay_L12 f_this_width f_this_types c_p4_letters c_p4_ranks c_p4_sizes c_p4_binomials) n12) b27_l5 b27_l11 = some r0 → ∀ (H : Heap) (locs : List Loc), va_P D vwCl [(a_p3, .inl (cI, 60, .inl b12_c_p3)), (a_p4_letters, .inl (cI, 4, .inl c_p4_letters)), (a_p4_ranks, .inl (cJ, 60, .inr (.inl c_p4_ranks))), (a_p4_sizes, .inl (cI, 60, .inl c_p4_sizes))] H → va_D A [(a_p3, .inl (cI, 60, .inl b12_c_p3)), (a_p4_letters, .inl (cI, 4, .inl c_p4_letters)), (a_p4_ranks, .inl (cJ, 60, .inr (.inl c_p4_ranks))), (a_p4_sizes, .inl (cI, 60, .inl c_p4_sizes))] → va_S A s.heap H locs → ∀ (ls : Array Slot), lv_has ls 15 [(0, .ref a_this), (3, .ref a_p3), (4, .ref a_p4), (5, .long b27_l5), (7, .int b12_l7), (8, .long b12_l8), (10, .int b12_l10), (11, .int b27_l11)] → W p l e rmX8_lay s m args below meth c H locs 0 0 Q (F0 m 86 ls []) := by
              intro  h H locs hP hD hS ls hl
              unfold fX8_lay_B86 at h
              have hR := rk_keep hR0 hn hS
              refine lv_aload_n hx hb dX8_lay_86 rfl (lv_at hl 1 rfl) ?_
              refine lv_iload hx hb dX8_lay_87 (lv_at hl 6 rfl) ?_
              refine lv_iload hx hb dX8_lay_89 (lv_at hl 7 rfl) ?_
              obtain ⟨r_91, hc_91, h⟩ := rk_bd h
              refine rk_v (wr := [(a_p4_letters, .inl (cI, 4, .inl c_p4_letters)), (a_p4_ranks, .inl (cJ, 60, .inr (.inl c_p4_ranks))), (a_p4_sizes, .inl (cI, 60, .inl c_p4_sizes))]) (va_runSN (As := [.ref a_p3, .int b12_l10, .int b27_l11]) (rest := []) hF (mtX9_set l D cI cJ cO PL _ a_p3 60 b12_c_p3 b12_l10 b27_l11 r_91 hc_91) ⟨va_cnB 3 htc (rk_gw w_1_46) rfl rfl rfl (hV.2.1 _ nw_2_53) (htc _ w_1_1) (by decide +kernel) ⟨(Nat.le_of_ble_eq_true rfl), (Nat.le_of_ble_eq_true rfl)⟩, htc _ w_1_45, trivial⟩ (rk_preS hP hD hS hR hn hPL hnl hV [0] [] rfl (by decide) rfl (by decide)) rfl rfl hl.1 rfl (lv_room (Nat.le_of_ble_eq_true rfl)) dX8_lay_91 ⟨(Nat.le_of_ble_eq_true rfl), (Nat.le_of_ble_eq_true rfl)⟩) hP hD hS hA hR0 hn [0] [1, 2, 3] rfl rfl (by decide) (by decide) (fun H locs hP hD hS hR => ?_)
              have hP : va_P D vwCl [(a_p4_letters, .inl (cI, 4, .inl c_p4_letters)), (a_p4_ranks, .inl (cJ, 60, .inr (.inl c_p4_ranks))), (a_p4_sizes, .inl (cI, 60, .inl c_p4_sizes)), (a_p3, .inl (cI, 60, .inl r_91))] H := hP
              have hD : va_D A [(a_p4_letters, .inl (cI, 4, .inl c_p4_letters)), (a_p4_ranks, .inl (cJ, 60, .inr (.inl c_p4_ranks))), (a_p4_sizes, .inl (cI, 60, .inl c_p4_sizes)), (a_p3, .inl (cI, 60, .inl r_91))] := hD
              refine lv_iload hx hb dX8_lay_94 (lv_at hl 4 rfl) ?_
              refine lv_iload hx hb dX8_lay_96 (lv_at hl 7 rfl) ?_
              obtain ⟨r_98, hc_98, h⟩ := rk_bd h
              refine rk_i (wr := [(a_p4_letters, .inl (cI, 4, .inl c_p4_letters)), (a_p4_ranks, .inl (cJ, 60, .inr (.inl c_p4_ranks))), (a_p4_sizes, .inl (cI, 60, .inl c_p4_sizes)), (a_p3, .inl (cI, 60, .inl r_91))]) (va_runS (As := [.int b12_l7, .int b27_l11]) (rest := []) hF (mtX8_depthAfter l D cI cJ cO PL _ b12_l7 b27_l11 r_98 hc_98) (va_cwS 2 htc (rk_gVS w_2_46 w_2_47 w_1_11 w_2_48) rfl rfl rfl (by decide +kernel) ⟨(Nat.le_of_ble_eq_true rfl), (Nat.le_of_ble_eq_true rfl)⟩) (rk_preS hP hD hS hR hn hPL hnl hV [] [] rfl (by decide) rfl (by decide)) rfl rfl hl.1 rfl (lv_room (Nat.le_of_ble_eq_true rfl)) dX8_lay_98 ⟨(Nat.le_of_ble_eq_true rfl), (Nat.le_of_ble_eq_true rfl)⟩) hP hD hS hA hR0 hn [] [0, 1, 2, 3] rfl rfl (by decide) (by decide) (fun H locs hP hD hS hR => ?_)
              have hP : va_P D vwCl [(a_p4_letters, .inl (cI, 4, .inl c_p4_letters)), (a_p4_ranks, .inl (cJ, 60, .inr (.inl c_p4_ranks))), (a_p4_sizes, .inl (cI, 60, .inl c_p4_sizes)), (a_p3, .inl (cI, 60, .inl r_91))] H := hP
              have hD : va_D A [(a_p4_letters, .inl (cI, 4, .inl c_p4_letters)), (a_p4_ranks, .inl (cJ, 60, .inr (.inl c_p4_ranks))), (a_p4_sizes, .inl (cI, 60, .inl c_p4_sizes)), (a_p3, .inl (cI, 60, .inl r_91))] := hD
              refine lv_istore (lv' := [(7, .int r_98), (0, .ref a_this), (3, .ref a_p3), (4, .ref a_p4), (5, .long b27_l5), (8, .long b12_l8), (10, .int b12_l10), (11, .int b27_l11)]) hx hb dX8_lay_101 hl (by decide) rfl (fun ls hl => ?_)
              refine lv_lload hx hb dX8_lay_103 (lv_at hl 5 rfl) ?_
              refine lv_iload hx hb dX8_lay_105 (lv_at hl 7 rfl) ?_
              obtain ⟨r_107, hc_107, h⟩ := rk_bd h
              refine rk_l (wr := [(a_p4_letters, .inl (cI, 4, .inl c_p4_letters)), (a_p4_ranks, .inl (cJ, 60, .inr (.inl c_p4_ranks))), (a_p4_sizes, .inl (cI, 60, .inl c_p4_sizes)), (a_p3, .inl (cI, 60, .inl r_91))]) (va_runS (As := [.long b12_l8, .int b27_l11]) (rest := []) hF (mtX8_openAfter l D cI cJ cO PL _ b12_l8 b27_l11 r_107 hc_107) (va_cwS 2 htc (rk_gVS w_2_54 w_2_55 w_1_11 w_2_56) rfl rfl rfl (by decide +kernel) ⟨(Nat.le_of_ble_eq_true rfl), (Nat.le_of_ble_eq_true rfl)⟩) (rk_preS hP hD hS hR hn hPL hnl hV [] [] rfl (by decide) rfl (by decide)) rfl rfl hl.1 rfl (lv_room (Nat.le_of_ble_eq_true rfl)) dX8_lay_107 ⟨(Nat.le_of_ble_eq_true rfl), (Nat.le_of_ble_eq_true rfl)⟩) hP hD hS hA hR0 hn [] [0, 1, 2, 3] rfl rfl (by decide) (by decide) (fun H locs hP hD hS hR => ?_)
              have hP : va_P D vwCl [(a_p4_letters, .inl (cI, 4, .inl c_p4_letters)), (a_p4_ranks, .inl (cJ, 60, .inr (.inl c_p4_ranks))), (a_p4_sizes, .inl (cI, 60, .inl c_p4_sizes)), (a_p3, .inl (cI, 60, .inl r_91))] H := hP
              have hD : va_D A [(a_p4_letters, .inl (cI, 4, .inl c_p4_letters)), (a_p4_ranks, .inl (cJ, 60, .inr (.inl c_p4_ranks))), (a_p4_sizes, .inl (cI, 60, .inl c_p4_sizes)), (a_p3, .inl (cI, 60, .inl r_91))] := hD
              refine lv_lstore (lv' := [(8, .long r_107), (7, .int r_98), (0, .ref a_this), (3, .ref a_p3), (4, .ref a_p4), (5, .long b27_l5), (10, .int b12_l10), (11, .int b27_l11)]) hx hb dX8_lay_110 hl (by decide) rfl (fun ls hl => ?_)
              refine lv_iinc (v := (b12_l10 + 1)) (lv' := [(10, .int (b12_l10 + 1)), (8, .long r_107), (7, .int r_98), (0, .ref a_this), (3, .ref a_p3), (4, .ref a_p4), (5, .long b27_l5), (11, .int b27_l11)]) hx hb dX8_lay_112 hl (k := 6) rfl rfl (by decide) rfl (fun ls hl => ?_)
              refine lv_goto (tgt := 12) hx hb dX8_lay_115 (by decide) ?_
              exact ih12 b27_l5 r_98 r_107 (b12_l10 + 1) r_91 h _ _ (hP.sub [3, 0, 1, 2] rfl) (hD.sub [3, 0, 1, 2] (by decide) rfl) hS _ (lv_sub hl [3, 4, 5, 6, 2, 1, 0] rfl)
            refine lv_icmp_ge (tgt := 86) hx hb dX8_lay_37 (by decide) (fun hc2 => ?_) (fun hc2 => ?_)
            · have h := rk_if hc2 h
              exact B86  h _ _ hP hD hS _ (lv_sub hl [0, 1, 2, 3, 4, 5, 6, 7] rfl)
            · have h := rk_nif hc2 h
              refine lv_aload_n hx hb dX8_lay_40 rfl (lv_at hl 0 rfl) ?_
              refine lv_iload hx hb dX8_lay_41 (lv_at hl 8 rfl) ?_
              refine lv_iload hx hb dX8_lay_43 (lv_at hl 6 rfl) ?_
              refine lv_iload hx hb dX8_lay_45 (lv_at hl 4 rfl) ?_
              refine lv_lload hx hb dX8_lay_47 (lv_at hl 5 rfl) ?_
              refine lv_aload hx hb dX8_lay_49 (lv_at hl 2 rfl) ?_
              obtain ⟨r_51, hc_51, h⟩ := rk_bd h
              refine rk_l (wr := [(a_p3, .inl (cI, 60, .inl b12_c_p3)), (a_p4_letters, .inl (cI, 4, .inl c_p4_letters)), (a_p4_ranks, .inl (cJ, 60, .inr (.inl c_p4_ranks))), (a_p4_sizes, .inl (cI, 60, .inl c_p4_sizes))]) (va_runV (C := RX8) (As := [.int b27_l12, .int b12_l10, .int b12_l7, .long b12_l8, .ref a_p4]) (rest := []) hF (mtX8_waysAfter l D cI cJ cO PL _ a_this f_this_number f_this_width f_this_size f_this_pairs f_this_types a_p4 a_p4_binomials a_p4_partitionCounts a_p4_treeCounts a_p4_sizes a_p4_starts a_p4_ranks a_p4_letters c_p4_binomials b27_l12 b12_l10 b12_l7 b12_l8 r_51 hc_51) (cwV 5 htc (rk_gV w_2_35 w_2_37 ws_10 w_1_11 w_2_39) rfl rfl rfl (by decide +kernel) ⟨(Nat.le_of_ble_eq_true rfl), (Nat.le_of_ble_eq_true rfl)⟩) (rk_preV (va_recv hV.1 hR (ci := 7) (q0 := 0) rfl rfl) (rk_preS hP hD hS hR hn hPL hnl hV [] [(false, 0), (false, 1), (false, 2)] rfl (by decide) rfl (by decide))) rfl rfl hl.1 rfl (lv_room (Nat.le_of_ble_eq_true rfl)) dX8_lay_51 ⟨(Nat.le_of_ble_eq_true rfl), (Nat.le_of_ble_eq_true rfl)⟩) hP hD hS hA hR0 hn [] [0, 1, 2, 3] rfl rfl (by decide) (by decide) (fun H locs hP hD hS hR => ?_)
              have hP : va_P D vwCl [(a_p3, .inl (cI, 60, .inl b12_c_p3)), (a_p4_letters, .inl (cI, 4, .inl c_p4_letters)), (a_p4_ranks, .inl (cJ, 60, .inr (.inl c_p4_ranks))), (a_p4_sizes, .inl (cI, 60, .inl c_p4_sizes))] H := hP
              have hD : va_D A [(a_p3, .inl (cI, 60, .inl b12_c_p3)), (a_p4_letters, .inl (cI, 4, .inl c_p4_letters)), (a_p4_ranks, .inl (cJ, 60, .inr (.inl c_p4_ranks))), (a_p4_sizes, .inl (cI, 60, .inl c_p4_sizes))] := hD
              refine lv_lstore (lv' := [(13, .long r_51), (0, .ref a_this), (3, .ref a_p3), (4, .ref a_p4), (5, .long b27_l5), (7, .int b12_l7), (8, .long b12_l8), (10, .int b12_l10), (11, .int b27_l11), (12, .int b27_l12)]) hx hb dX8_lay_54 hl (by decide) rfl (fun ls hl => ?_)
              refine lv_lload hx hb dX8_lay_56 (lv_at hl 4 rfl) ?_
              refine lv_lload hx hb dX8_lay_58 (lv_at hl 0 rfl) ?_
              refine rk_lcge (tgt := 67) hx hb dX8_lay_60 dX8_lay_61 (by decide) (fun hc3 => ?_) (fun hc3 => ?_)
              · have h := rk_if hc3 h
                refine lv_lload hx hb dX8_lay_67 (lv_at hl 4 rfl) ?_
                refine lv_lload hx hb dX8_lay_69 (lv_at hl 0 rfl) ?_
                refine lv_lsub hx hb dX8_lay_71 ?_
                refine lv_lstore (lv' := [(5, .long (b27_l5 - r_51)), (13, .long r_51), (0, .ref a_this), (3, .ref a_p3), (4, .ref a_p4), (7, .int b12_l7), (8, .long b12_l8), (10, .int b12_l10), (11, .int b27_l11), (12, .int b27_l12)]) hx hb dX8_lay_72 hl (by decide) rfl (fun ls hl => ?_)
                refine lv_iload hx hb dX8_lay_74 (lv_at hl 9 rfl) ?_
                refine lv_iconst (v := 1) hx hb dX8_lay_76 (by decide) ?_
                refine lv_iadd hx hb dX8_lay_77 ?_
                refine lv_istore (lv' := [(11, .int (b27_l12 + (1 : Int32))), (5, .long (b27_l5 - r_51)), (13, .long r_51), (0, .ref a_this), (3, .ref a_p3), (4, .ref a_p4), (7, .int b12_l7), (8, .long b12_l8), (10, .int b12_l10), (12, .int b27_l12)]) hx hb dX8_lay_78 hl (by decide) rfl (fun ls hl => ?_)
                refine lv_iinc (v := (b27_l12 + 1)) (lv' := [(12, .int (b27_l12 + 1)), (11, .int (b27_l12 + (1 : Int32))), (5, .long (b27_l5 - r_51)), (13, .long r_51), (0, .ref a_this), (3, .ref a_p3), (4, .ref a_p4), (7, .int b12_l7), (8, .long b12_l8), (10, .int b12_l10)]) hx hb dX8_lay_80 hl (k := 9) rfl rfl (by decide) rfl (fun ls hl => ?_)
                refine lv_goto (tgt := 27) hx hb dX8_lay_83 (by decide) ?_
                exact ih27 (b27_l5 - r_51) (b27_l12 + (1 : Int32)) (b27_l12 + 1) h _ _ hP hD hS _ (lv_sub hl [4, 5, 6, 2, 7, 8, 9, 1, 0] rfl)
              · have h := rk_nif hc3 h
                refine lv_goto (tgt := 86) hx hb dX8_lay_64 (by decide) ?_
                exact B86  h _ _ hP hD hS _ (lv_sub hl [1, 2, 3, 4, 5, 6, 7, 8] rfl)
        exact L27 FU b12_l5 (0 : Int32) (0 : Int32) h _ _ hP hD hS _ (lv_sub hl [2, 3, 4, 5, 6, 7, 8, 1, 0] rfl)
  exact L12 FU v_p1 (0 : Int32) (0 : Int64) (0 : Int32) c_p3 h _ _ hP hD hS _ (lv_sub hl [4, 6, 7, 3, 2, 1, 0] rfl)
set_option maxHeartbeats 4000000 in
set_option maxRecDepth 100000 in
theorem mtX8_turn (l : Launch) (D : va_G) (cI cJ cO : ClassId) (PL : va_W) (sz : Nat) (a_p2 : Nat) (c_p2 : Nat → Int32) (a_this : Nat) (f_this_number : Int32) (f_this_width : Int32) (f_this_size : Int64) (f_this_pairs : Int32) (f_this_types : Int32) (a_p1 : Nat) (c_p1 : Nat → Int32) (a_p3 : Nat) (a_p3_binomials : Nat) (a_p3_partitionCounts : Nat) (a_p3_treeCounts : Nat) (a_p3_sizes : Nat) (a_p3_starts : Nat) (a_p3_ranks : Nat) (a_p3_letters : Nat) (c_p3_sizes : Nat → Int32) (c_p3_starts : Nat → Int32) (r0 : (Nat → Int32) × (Nat → Int32) × (Nat → Int32)) (h : fX8_turn c_p2 f_this_width c_p1 c_p3_sizes c_p3_starts = some r0) : Met l yX8_turn (rk_w yX8_turn cX8_turn 5 none) rmX8_turn (va_Pc [.ref a_this, .ref a_p1, .ref a_p2, .ref a_p3] (rk_B D (rk_TY cI cJ cO) [(a_p2, .inl (cI, 60, .inl c_p2)), (a_p3_sizes, .inl (cI, 60, .inl c_p3_sizes)), (a_p3_starts, .inl (cI, 60, .inl c_p3_starts))] [(a_this, .inr (7, [.int f_this_number, .int f_this_width, .long f_this_size, .int f_this_pairs, .int f_this_types])), (a_p1, .inl (cI, 60, .inl c_p1)), (a_p3, .inr (2, [.ref a_p3_binomials, .ref a_p3_partitionCounts, .ref a_p3_treeCounts, .ref a_p3_sizes, .ref a_p3_starts, .ref a_p3_ranks, .ref a_p3_letters]))] PL sz)) (rk_Qv D [(a_p2, .inl (cI, 60, .inl r0.1)), (a_p3_sizes, .inl (cI, 60, .inl r0.2.1)), (a_p3_starts, .inl (cI, 60, .inl r0.2.2))] [(a_p2, .inl (cI, 60, .inl c_p2)), (a_p3_sizes, .inl (cI, 60, .inl c_p3_sizes)), (a_p3_starts, .inl (cI, 60, .inl c_p3_starts))] sz) 0 0 (va_A [(a_p2, .inl (cI, 60, .inl c_p2)), (a_p3_sizes, .inl (cI, 60, .inl c_p3_sizes)), (a_p3_starts, .inl (cI, 60, .inl c_p3_starts))] sz) := by
  refine rk_metv h (fun x => [(a_p2, .inl (cI, 60, .inl x.1)), (a_p3_sizes, .inl (cI, 60, .inl x.2.1)), (a_p3_starts, .inl (cI, 60, .inl x.2.2))]) (by decide) (Nat.le_of_ble_eq_true rfl) ?_
  intro p e s m args below meth c A ls Q hret hname hF hP hD hA hV hR0 hn hPL hnl hl h hS
  have hx := hF.1
  have hb := hF.2.1
  have hml := hF.2.2.1
  have hown : s.vm.findClass RX8 = some m.cls := hF.2.2.2.1
  have htc := hF.2.2.2.2
  have hP : va_P D vwCl [(a_p2, .inl (cI, 60, .inl c_p2)), (a_p3_sizes, .inl (cI, 60, .inl c_p3_sizes)), (a_p3_starts, .inl (cI, 60, .inl c_p3_starts))] s.heap := hP
  have hD : va_D A [(a_p2, .inl (cI, 60, .inl c_p2)), (a_p3_sizes, .inl (cI, 60, .inl c_p3_sizes)), (a_p3_starts, .inl (cI, 60, .inl c_p3_starts))] := hD
  have hR0 : va_P D vwCl [(a_this, .inr (7, [.int f_this_number, .int f_this_width, .long f_this_size, .int f_this_pairs, .int f_this_types])), (a_p1, .inl (cI, 60, .inl c_p1)), (a_p3, .inr (2, [.ref a_p3_binomials, .ref a_p3_partitionCounts, .ref a_p3_treeCounts, .ref a_p3_sizes, .ref a_p3_starts, .ref a_p3_ranks, .ref a_p3_letters]))] s.heap := hR0
  have hR := hR0
  have hl : lv_has ls 5 [(0, .ref a_this), (1, .ref a_p1), (2, .ref a_p2), (3, .ref a_p3)] := hl
  unfold fX8_turn at h
  refine lv_iconst (v := 0) hx hb dX8_turn_0 (by decide) ?_
  refine lv_istore (lv' := [(4, .int (0 : Int32)), (0, .ref a_this), (1, .ref a_p1), (2, .ref a_p2), (3, .ref a_p3)]) hx hb dX8_turn_1 hl (by decide) rfl (fun ls hl => ?_)
  have L3 : ∀ (n3 : Nat) (b3_l4 : Int32) (b3_c_p2 : Nat → Int32), rk_it2 (fX8_turn_L3 f_this_width c_p1 c_p3_sizes c_p3_starts) n3 b3_l4 b3_c_p2 = some r0 → ∀ (H : Heap) (locs : List Loc), va_P D vwCl [(a_p2, .inl (cI, 60, .inl b3_c_p2)), (a_p3_sizes, .inl (cI, 60, .inl c_p3_sizes)), (a_p3_starts, .inl (cI, 60, .inl c_p3_starts))] H → va_D A [(a_p2, .inl (cI, 60, .inl b3_c_p2)), (a_p3_sizes, .inl (cI, 60, .inl c_p3_sizes)), (a_p3_starts, .inl (cI, 60, .inl c_p3_starts))] → va_S A s.heap H locs → ∀ (ls : Array Slot), lv_has ls 5 [(0, .ref a_this), (1, .ref a_p1), (2, .ref a_p2), (4, .int b3_l4)] → W p l e rmX8_turn s m args below meth c H locs 0 0 Q (F0 m 3 ls []) := by
    intro n3
    induction n3 with
    | zero => intro b3_l4 b3_c_p2 h; exact rk_no h
    | succ n3 ih3 =>
      intro b3_l4 b3_c_p2 h H locs hP hD hS ls hl
      have h : fX8_turn_L3 f_this_width c_p1 c_p3_sizes c_p3_starts (rk_it2 (fX8_turn_L3 f_this_width c_p1 c_p3_sizes c_p3_starts) n3) b3_l4 b3_c_p2 = some r0 := h
      unfold fX8_turn_L3 at h
      have hR := rk_keep hR0 hn hS
      refine lv_iload hx hb dX8_turn_3 (lv_at hl 3 rfl) ?_
      refine lv_aload_n hx hb dX8_turn_5 rfl (lv_at hl 0 rfl) ?_
      refine va_get (D := D) (ci := 7) (v := .int f_this_width) (C := RX8) (T := TX8) (N := 5) hx hb htc inX8 hown hV.1 hR 0 rfl rfl 1 (by decide) (htc _ w_1_133) (fun _ h9 => u_same (htc _ w_1_134) _ h9) rfl dX8_turn_6 ?_
      refine lv_icmp_ge (tgt := 39) hx hb dX8_turn_9 (by decide) (fun hc1 => ?_) (fun hc1 => ?_)
      · have h := rk_if hc1 h
        exact hret (b3_c_p2, c_p3_sizes, c_p3_starts) _ _ _ _ h dX8_turn_39 hP hD hS
      · have h := rk_nif hc1 h
        refine lv_aload_n hx hb dX8_turn_12 rfl (lv_at hl 2 rfl) ?_
        refine lv_iload hx hb dX8_turn_13 (lv_at hl 3 rfl) ?_
        refine lv_aload_n hx hb dX8_turn_15 rfl (lv_at hl 1 rfl) ?_
        refine lv_aload_n hx hb dX8_turn_16 rfl (lv_at hl 0 rfl) ?_
        refine va_get (D := D) (ci := 7) (v := .int f_this_width) (C := RX8) (T := TX8) (N := 5) hx hb htc inX8 hown hV.1 hR 0 rfl rfl 1 (by decide) (htc _ w_1_133) (fun _ h9 => u_same (htc _ w_1_134) _ h9) rfl dX8_turn_17 ?_
        refine lv_iconst (v := 1) hx hb dX8_turn_20 (by decide) ?_
        refine lv_isub hx hb dX8_turn_21 ?_
        refine lv_iload hx hb dX8_turn_22 (lv_at hl 3 rfl) ?_
        refine lv_isub hx hb dX8_turn_24 ?_
        obtain ⟨r_25, hc_25, h⟩ := rk_bd h
        refine rk_i (wr := [(a_p2, .inl (cI, 60, .inl b3_c_p2)), (a_p3_sizes, .inl (cI, 60, .inl c_p3_sizes)), (a_p3_starts, .inl (cI, 60, .inl c_p3_starts))]) (va_runSN (As := [.ref a_p1, .int ((f_this_width - (1 : Int32)) - b3_l4)]) (rest := [.int b3_l4, .ref a_p2]) hF (mtX9_at l D cI cJ cO PL _ a_p1 60 c_p1 ((f_this_width - (1 : Int32)) - b3_l4) r_25 hc_25) ⟨va_cnB 2 htc (rk_gw w_1_52) rfl rfl rfl (hV.2.1 _ nw_3_9) (htc _ w_1_1) (by decide +kernel) ⟨(Nat.le_of_ble_eq_true rfl), (Nat.le_of_ble_eq_true rfl)⟩, htc _ w_1_51, trivial⟩ (rk_preS hP hD hS hR hn hPL hnl hV [] [(false, 1)] rfl (by decide) rfl (by decide)) rfl rfl hl.1 rfl (lv_room (Nat.le_of_ble_eq_true rfl)) dX8_turn_25 ⟨(Nat.le_of_ble_eq_true rfl), (Nat.le_of_ble_eq_true rfl)⟩) hP hD hS hA hR0 hn [] [0, 1, 2] rfl rfl (by decide) (by decide) (fun H locs hP hD hS hR => ?_)
        have hP : va_P D vwCl [(a_p2, .inl (cI, 60, .inl b3_c_p2)), (a_p3_sizes, .inl (cI, 60, .inl c_p3_sizes)), (a_p3_starts, .inl (cI, 60, .inl c_p3_starts))] H := hP
        have hD : va_D A [(a_p2, .inl (cI, 60, .inl b3_c_p2)), (a_p3_sizes, .inl (cI, 60, .inl c_p3_sizes)), (a_p3_starts, .inl (cI, 60, .inl c_p3_starts))] := hD
        refine lv_iconst (v := 1) hx hb dX8_turn_28 (by decide) ?_
        refine lv_ixor hx hb dX8_turn_29 ?_
        obtain ⟨r_30, hc_30, h⟩ := rk_bd h
        refine rk_v (wr := [(a_p3_sizes, .inl (cI, 60, .inl c_p3_sizes)), (a_p3_starts, .inl (cI, 60, .inl c_p3_starts))]) (va_runSN (As := [.ref a_p2, .int b3_l4, .int (r_25 ^^^ (1 : Int32))]) (rest := []) hF (mtX9_set l D cI cJ cO PL _ a_p2 60 b3_c_p2 b3_l4 (r_25 ^^^ (1 : Int32)) r_30 hc_30) ⟨va_cnB 3 htc (rk_gw w_1_46) rfl rfl rfl (hV.2.1 _ nw_2_53) (htc _ w_1_1) (by decide +kernel) ⟨(Nat.le_of_ble_eq_true rfl), (Nat.le_of_ble_eq_true rfl)⟩, htc _ w_1_45, trivial⟩ (rk_preS hP hD hS hR hn hPL hnl hV [0] [] rfl (by decide) rfl (by decide)) rfl rfl hl.1 rfl (lv_room (Nat.le_of_ble_eq_true rfl)) dX8_turn_30 ⟨(Nat.le_of_ble_eq_true rfl), (Nat.le_of_ble_eq_true rfl)⟩) hP hD hS hA hR0 hn [0] [1, 2] rfl rfl (by decide) (by decide) (fun H locs hP hD hS hR => ?_)
        have hP : va_P D vwCl [(a_p3_sizes, .inl (cI, 60, .inl c_p3_sizes)), (a_p3_starts, .inl (cI, 60, .inl c_p3_starts)), (a_p2, .inl (cI, 60, .inl r_30))] H := hP
        have hD : va_D A [(a_p3_sizes, .inl (cI, 60, .inl c_p3_sizes)), (a_p3_starts, .inl (cI, 60, .inl c_p3_starts)), (a_p2, .inl (cI, 60, .inl r_30))] := hD
        refine lv_iinc (v := (b3_l4 + 1)) (lv' := [(4, .int (b3_l4 + 1)), (0, .ref a_this), (1, .ref a_p1), (2, .ref a_p2)]) hx hb dX8_turn_33 hl (k := 3) rfl rfl (by decide) rfl (fun ls hl => ?_)
        refine lv_goto (tgt := 3) hx hb dX8_turn_36 (by decide) ?_
        exact ih3 (b3_l4 + 1) r_30 h _ _ (hP.sub [2, 0, 1] rfl) (hD.sub [2, 0, 1] (by decide) rfl) hS _ (lv_sub hl [1, 2, 3, 0] rfl)
  exact L3 FU (0 : Int32) c_p2 h _ _ hP hD hS _ (lv_sub hl [1, 2, 3, 0] rfl)
set_option maxHeartbeats 4000000 in
set_option maxRecDepth 100000 in
theorem mtX8_grow (l : Launch) (D : va_G) (cI cJ cO : ClassId) (PL : va_W) (sz : Nat) (a_p2 : Nat) (c_p2 : Nat → Int32) (a_p0 : Nat) (c_p0 : Nat → Int32) (a_p3 : Nat) (a_p3_binomials : Nat) (a_p3_partitionCounts : Nat) (a_p3_treeCounts : Nat) (a_p3_sizes : Nat) (a_p3_starts : Nat) (a_p3_ranks : Nat) (a_p3_letters : Nat) (c_p3_starts : Nat → Int32) (v_p1 : Int32) (r0 : (Nat → Int32) × (Nat → Int32)) (h : fX8_grow c_p2 c_p0 c_p3_starts v_p1 = some r0) : Met l yX8_grow (rk_w yX8_grow cX8_grow 8 none) rmX8_grow (va_Pc [.ref a_p0, .int v_p1, .ref a_p2, .ref a_p3] (rk_B D (rk_TY cI cJ cO) [(a_p2, .inl (cI, 60, .inl c_p2)), (a_p3_starts, .inl (cI, 60, .inl c_p3_starts))] [(a_p0, .inl (cI, 60, .inl c_p0)), (a_p3, .inr (2, [.ref a_p3_binomials, .ref a_p3_partitionCounts, .ref a_p3_treeCounts, .ref a_p3_sizes, .ref a_p3_starts, .ref a_p3_ranks, .ref a_p3_letters]))] PL sz)) (rk_Qv D [(a_p2, .inl (cI, 60, .inl r0.1)), (a_p3_starts, .inl (cI, 60, .inl r0.2))] [(a_p2, .inl (cI, 60, .inl c_p2)), (a_p3_starts, .inl (cI, 60, .inl c_p3_starts))] sz) 0 0 (va_A [(a_p2, .inl (cI, 60, .inl c_p2)), (a_p3_starts, .inl (cI, 60, .inl c_p3_starts))] sz) := by
  refine rk_metv h (fun x => [(a_p2, .inl (cI, 60, .inl x.1)), (a_p3_starts, .inl (cI, 60, .inl x.2))]) (by decide) (Nat.le_of_ble_eq_true rfl) ?_
  intro p e s m args below meth c A ls Q hret hname hF hP hD hA hV hR0 hn hPL hnl hl h hS
  have hx := hF.1
  have hb := hF.2.1
  have hml := hF.2.2.1
  have hown : s.vm.findClass RX8 = some m.cls := hF.2.2.2.1
  have htc := hF.2.2.2.2
  have hP : va_P D vwCl [(a_p2, .inl (cI, 60, .inl c_p2)), (a_p3_starts, .inl (cI, 60, .inl c_p3_starts))] s.heap := hP
  have hD : va_D A [(a_p2, .inl (cI, 60, .inl c_p2)), (a_p3_starts, .inl (cI, 60, .inl c_p3_starts))] := hD
  have hR0 : va_P D vwCl [(a_p0, .inl (cI, 60, .inl c_p0)), (a_p3, .inr (2, [.ref a_p3_binomials, .ref a_p3_partitionCounts, .ref a_p3_treeCounts, .ref a_p3_sizes, .ref a_p3_starts, .ref a_p3_ranks, .ref a_p3_letters]))] s.heap := hR0
  have hR := hR0
  have hl : lv_has ls 8 [(0, .ref a_p0), (1, .int v_p1), (2, .ref a_p2), (3, .ref a_p3)] := hl
  unfold fX8_grow at h
  refine lv_iconst (v := 0) hx hb dX8_grow_0 (by decide) ?_
  refine lv_istore (lv' := [(4, .int (0 : Int32)), (0, .ref a_p0), (1, .int v_p1), (2, .ref a_p2), (3, .ref a_p3)]) hx hb dX8_grow_1 hl (by decide) rfl (fun ls hl => ?_)
  refine lv_iconst (v := 0) hx hb dX8_grow_3 (by decide) ?_
  refine lv_istore (lv' := [(5, .int (0 : Int32)), (4, .int (0 : Int32)), (0, .ref a_p0), (1, .int v_p1), (2, .ref a_p2), (3, .ref a_p3)]) hx hb dX8_grow_4 hl (by decide) rfl (fun ls hl => ?_)
  refine lv_iconst (v := 0) hx hb dX8_grow_6 (by decide) ?_
  refine lv_istore (lv' := [(6, .int (0 : Int32)), (5, .int (0 : Int32)), (4, .int (0 : Int32)), (0, .ref a_p0), (1, .int v_p1), (2, .ref a_p2), (3, .ref a_p3)]) hx hb dX8_grow_7 hl (by decide) rfl (fun ls hl => ?_)
  have L9 : ∀ (n9 : Nat) (b9_l4 : Int32) (b9_l5 : Int32) (b9_l6 : Int32) (b9_c_p2 : Nat → Int32) (b9_c_p3_starts : Nat → Int32), rk_it5 (fX8_grow_L9 c_p0 v_p1) n9 b9_l4 b9_l5 b9_l6 b9_c_p2 b9_c_p3_starts = some r0 → ∀ (H : Heap) (locs : List Loc), va_P D vwCl [(a_p2, .inl (cI, 60, .inl b9_c_p2)), (a_p3_starts, .inl (cI, 60, .inl b9_c_p3_starts))] H → va_D A [(a_p2, .inl (cI, 60, .inl b9_c_p2)), (a_p3_starts, .inl (cI, 60, .inl b9_c_p3_starts))] → va_S A s.heap H locs → ∀ (ls : Array Slot), lv_has ls 8 [(0, .ref a_p0), (1, .int v_p1), (2, .ref a_p2), (3, .ref a_p3), (4, .int b9_l4), (5, .int b9_l5), (6, .int b9_l6)] → W p l e rmX8_grow s m args below meth c H locs 0 0 Q (F0 m 9 ls []) := by
    intro n9
    induction n9 with
    | zero => intro b9_l4 b9_l5 b9_l6 b9_c_p2 b9_c_p3_starts h; exact rk_no h
    | succ n9 ih9 =>
      intro b9_l4 b9_l5 b9_l6 b9_c_p2 b9_c_p3_starts h H locs hP hD hS ls hl
      have h : fX8_grow_L9 c_p0 v_p1 (rk_it5 (fX8_grow_L9 c_p0 v_p1) n9) b9_l4 b9_l5 b9_l6 b9_c_p2 b9_c_p3_starts = some r0 := h
      unfold fX8_grow_L9 at h
      have hR := rk_keep hR0 hn hS
      refine lv_iload hx hb dX8_grow_9 (lv_at hl 6 rfl) ?_
      refine lv_iconst (v := 2) hx hb dX8_grow_11 (by decide) ?_
      refine lv_iload_n hx hb dX8_grow_12 rfl (lv_at hl 1 rfl) ?_
      refine lv_imul hx hb dX8_grow_13 ?_
      refine lv_icmp_ge (tgt := 82) hx hb dX8_grow_14 (by decide) (fun hc1 => ?_) (fun hc1 => ?_)
      · have h := rk_if hc1 h
        exact hret (b9_c_p2, b9_c_p3_starts) _ _ _ _ h dX8_grow_82 hP hD hS
      · have h := rk_nif hc1 h
        refine lv_aload_n hx hb dX8_grow_17 rfl (lv_at hl 0 rfl) ?_
        refine lv_iload hx hb dX8_grow_18 (lv_at hl 6 rfl) ?_
        obtain ⟨r_20, hc_20, h⟩ := rk_bd h
        refine rk_i (wr := [(a_p2, .inl (cI, 60, .inl b9_c_p2)), (a_p3_starts, .inl (cI, 60, .inl b9_c_p3_starts))]) (va_runSN (As := [.ref a_p0, .int b9_l6]) (rest := []) hF (mtX9_at l D cI cJ cO PL _ a_p0 60 c_p0 b9_l6 r_20 hc_20) ⟨va_cnB 2 htc (rk_gw w_1_52) rfl rfl rfl (hV.2.1 _ nw_3_9) (htc _ w_1_1) (by decide +kernel) ⟨(Nat.le_of_ble_eq_true rfl), (Nat.le_of_ble_eq_true rfl)⟩, htc _ w_1_51, trivial⟩ (rk_preS hP hD hS hR hn hPL hnl hV [] [(false, 0)] rfl (by decide) rfl (by decide)) rfl rfl hl.1 rfl (lv_room (Nat.le_of_ble_eq_true rfl)) dX8_grow_20 ⟨(Nat.le_of_ble_eq_true rfl), (Nat.le_of_ble_eq_true rfl)⟩) hP hD hS hA hR0 hn [] [0, 1] rfl rfl (by decide) (by decide) (fun H locs hP hD hS hR => ?_)
        have hP : va_P D vwCl [(a_p2, .inl (cI, 60, .inl b9_c_p2)), (a_p3_starts, .inl (cI, 60, .inl b9_c_p3_starts))] H := hP
        have hD : va_D A [(a_p2, .inl (cI, 60, .inl b9_c_p2)), (a_p3_starts, .inl (cI, 60, .inl b9_c_p3_starts))] := hD
        obtain ⟨r_23, hc_23, h⟩ := rk_bd h
        refine rk_i (wr := [(a_p2, .inl (cI, 60, .inl b9_c_p2)), (a_p3_starts, .inl (cI, 60, .inl b9_c_p3_starts))]) (va_runS (As := [.int r_20]) (rest := []) hF (mtX8_isOpening l D cI cJ cO PL _ r_20 r_23 hc_23) (va_cwS 1 htc (rk_gVS w_2_43 w_2_44 w_1_11 w_2_45) rfl rfl rfl (by decide +kernel) ⟨(Nat.le_of_ble_eq_true rfl), (Nat.le_of_ble_eq_true rfl)⟩) (rk_preS hP hD hS hR hn hPL hnl hV [] [] rfl (by decide) rfl (by decide)) rfl rfl hl.1 rfl (lv_room (Nat.le_of_ble_eq_true rfl)) dX8_grow_23 ⟨(Nat.le_of_ble_eq_true rfl), (Nat.le_of_ble_eq_true rfl)⟩) hP hD hS hA hR0 hn [] [0, 1] rfl rfl (by decide) (by decide) (fun H locs hP hD hS hR => ?_)
        have hP : va_P D vwCl [(a_p2, .inl (cI, 60, .inl b9_c_p2)), (a_p3_starts, .inl (cI, 60, .inl b9_c_p3_starts))] H := hP
        have hD : va_D A [(a_p2, .inl (cI, 60, .inl b9_c_p2)), (a_p3_starts, .inl (cI, 60, .inl b9_c_p3_starts))] := hD
        have B76 : ∀ (b76_l4 : Int32) (b76_l5 : Int32) (b76_c_p2 : Nat → Int32) (b76_c_p3_starts : Nat → Int32), fX8_grow_B76 b9_l6 (rk_it5 (fX8_grow_L9 c_p0 v_p1) n9) b76_l4 b76_l5 b76_c_p2 b76_c_p3_starts = some r0 → ∀ (H : Heap) (locs : List Loc), va_P D vwCl [(a_p2, .inl (cI, 60, .inl b76_c_p2)), (a_p3_starts, .inl (cI, 60, .inl b76_c_p3_starts))] H → va_D A [(a_p2, .inl (cI, 60, .inl b76_c_p2)), (a_p3_starts, .inl (cI, 60, .inl b76_c_p3_starts))] → va_S A s.heap H locs → ∀ (ls : Array Slot), lv_has ls 8 [(0, .ref a_p0), (1, .int v_p1), (2, .ref a_p2), (3, .ref a_p3), (4, .int b76_l4), (5, .int b76_l5), (6, .int b9_l6)] → W p l e rmX8_grow s m args below meth c H locs 0 0 Q (F0 m 76 ls []) := by
          intro b76_l4 b76_l5 b76_c_p2 b76_c_p3_starts h H locs hP hD hS ls hl
          unfold fX8_grow_B76 at h
          have hR := rk_keep hR0 hn hS
          refine lv_iinc (v := (b9_l6 + 1)) (lv' := [(6, .int (b9_l6 + 1)), (0, .ref a_p0), (1, .int v_p1), (2, .ref a_p2), (3, .ref a_p3), (4, .int b76_l4), (5, .int b76_l5)]) hx hb dX8_grow_76 hl (k := 6) rfl rfl (by decide) rfl (fun ls hl => ?_)
          refine lv_goto (tgt := 9) hx hb dX8_grow_79 (by decide) ?_
          exact ih9 b76_l4 b76_l5 (b9_l6 + 1) b76_c_p2 b76_c_p3_starts h _ _ hP hD hS _ (lv_sub hl [1, 2, 3, 4, 5, 6, 0] rfl)
        refine lv_if_eq (tgt := 49) hx hb dX8_grow_26 (by decide) (fun hc2 => ?_) (fun hc2 => ?_)
        · have h := rk_if hc2 h
          refine lv_iinc (v := (b9_l5 + (-1))) (lv' := [(5, .int (b9_l5 + (-1))), (0, .ref a_p0), (1, .int v_p1), (2, .ref a_p2), (3, .ref a_p3), (4, .int b9_l4), (6, .int b9_l6)]) hx hb dX8_grow_49 hl (k := 5) rfl rfl (by decide) rfl (fun ls hl => ?_)
          refine lv_aload_n hx hb dX8_grow_52 rfl (lv_at hl 4 rfl) ?_
          refine va_getN (D := D) (ci := 2) (v := .ref a_p3_starts) (C := RX2) (T := TX2) (N := 7) hx hb htc inX2 hown hV.1 hR 1 rfl rfl 4 (by decide) (va_Nw.use rfl (hV.2.1 _ nw_1_63)) (fun _ h9 => h9) rfl dX8_grow_53 ?_
          refine lv_iload hx hb dX8_grow_56 (lv_at hl 0 rfl) ?_
          obtain ⟨r_58, hc_58, h⟩ := rk_bd h
          refine rk_i (wr := [(a_p2, .inl (cI, 60, .inl b9_c_p2)), (a_p3_starts, .inl (cI, 60, .inl b9_c_p3_starts))]) (va_runSN (As := [.ref a_p3_starts, .int (b9_l5 + (-1))]) (rest := []) hF (mtX9_at l D cI cJ cO PL _ a_p3_starts 60 b9_c_p3_starts (b9_l5 + (-1)) r_58 hc_58) ⟨va_cnB 2 htc (rk_gw w_1_52) rfl rfl rfl (hV.2.1 _ nw_3_9) (htc _ w_1_1) (by decide +kernel) ⟨(Nat.le_of_ble_eq_true rfl), (Nat.le_of_ble_eq_true rfl)⟩, htc _ w_1_51, trivial⟩ (rk_preS hP hD hS hR hn hPL hnl hV [] [(true, 1)] rfl (by decide) rfl (by decide)) rfl rfl hl.1 rfl (lv_room (Nat.le_of_ble_eq_true rfl)) dX8_grow_58 ⟨(Nat.le_of_ble_eq_true rfl), (Nat.le_of_ble_eq_true rfl)⟩) hP hD hS hA hR0 hn [] [0, 1] rfl rfl (by decide) (by decide) (fun H locs hP hD hS hR => ?_)
          have hP : va_P D vwCl [(a_p2, .inl (cI, 60, .inl b9_c_p2)), (a_p3_starts, .inl (cI, 60, .inl b9_c_p3_starts))] H := hP
          have hD : va_D A [(a_p2, .inl (cI, 60, .inl b9_c_p2)), (a_p3_starts, .inl (cI, 60, .inl b9_c_p3_starts))] := hD
          refine lv_istore (lv' := [(7, .int r_58), (5, .int (b9_l5 + (-1))), (0, .ref a_p0), (1, .int v_p1), (2, .ref a_p2), (3, .ref a_p3), (4, .int b9_l4), (6, .int b9_l6)]) hx hb dX8_grow_61 hl (by decide) rfl (fun ls hl => ?_)
          refine lv_aload_n hx hb dX8_grow_63 rfl (lv_at hl 4 rfl) ?_
          refine lv_iload hx hb dX8_grow_64 (lv_at hl 0 rfl) ?_
          refine lv_iload hx hb dX8_grow_66 (lv_at hl 6 rfl) ?_
          refine lv_iconst (v := 1) hx hb dX8_grow_68 (by decide) ?_
          refine lv_isub hx hb dX8_grow_69 ?_
          refine lv_iload hx hb dX8_grow_70 (lv_at hl 0 rfl) ?_
          refine lv_isub hx hb dX8_grow_72 ?_
          obtain ⟨r_73, hc_73, h⟩ := rk_bd h
          refine rk_v (wr := [(a_p3_starts, .inl (cI, 60, .inl b9_c_p3_starts))]) (va_runSN (As := [.ref a_p2, .int r_58, .int ((b9_l4 - (1 : Int32)) - r_58)]) (rest := []) hF (mtX9_set l D cI cJ cO PL _ a_p2 60 b9_c_p2 r_58 ((b9_l4 - (1 : Int32)) - r_58) r_73 hc_73) ⟨va_cnB 3 htc (rk_gw w_1_46) rfl rfl rfl (hV.2.1 _ nw_2_53) (htc _ w_1_1) (by decide +kernel) ⟨(Nat.le_of_ble_eq_true rfl), (Nat.le_of_ble_eq_true rfl)⟩, htc _ w_1_45, trivial⟩ (rk_preS hP hD hS hR hn hPL hnl hV [0] [] rfl (by decide) rfl (by decide)) rfl rfl hl.1 rfl (lv_room (Nat.le_of_ble_eq_true rfl)) dX8_grow_73 ⟨(Nat.le_of_ble_eq_true rfl), (Nat.le_of_ble_eq_true rfl)⟩) hP hD hS hA hR0 hn [0] [1] rfl rfl (by decide) (by decide) (fun H locs hP hD hS hR => ?_)
          have hP : va_P D vwCl [(a_p3_starts, .inl (cI, 60, .inl b9_c_p3_starts)), (a_p2, .inl (cI, 60, .inl r_73))] H := hP
          have hD : va_D A [(a_p3_starts, .inl (cI, 60, .inl b9_c_p3_starts)), (a_p2, .inl (cI, 60, .inl r_73))] := hD
          exact B76 b9_l4 (b9_l5 + (-1)) r_73 b9_c_p3_starts h _ _ (hP.sub [1, 0] rfl) (hD.sub [1, 0] (by decide) rfl) hS _ (lv_sub hl [2, 3, 4, 5, 6, 1, 7] rfl)
        · have h := rk_nif hc2 h
          refine lv_aload_n hx hb dX8_grow_29 rfl (lv_at hl 3 rfl) ?_
          refine va_getN (D := D) (ci := 2) (v := .ref a_p3_starts) (C := RX2) (T := TX2) (N := 7) hx hb htc inX2 hown hV.1 hR 1 rfl rfl 4 (by decide) (va_Nw.use rfl (hV.2.1 _ nw_1_63)) (fun _ h9 => h9) rfl dX8_grow_30 ?_
          refine lv_iload hx hb dX8_grow_33 (lv_at hl 5 rfl) ?_
          refine lv_iload hx hb dX8_grow_35 (lv_at hl 4 rfl) ?_
          obtain ⟨r_37, hc_37, h⟩ := rk_bd h
          refine rk_v (wr := [(a_p2, .inl (cI, 60, .inl b9_c_p2))]) (va_runSN (As := [.ref a_p3_starts, .int b9_l5, .int b9_l4]) (rest := []) hF (mtX9_set l D cI cJ cO PL _ a_p3_starts 60 b9_c_p3_starts b9_l5 b9_l4 r_37 hc_37) ⟨va_cnB 3 htc (rk_gw w_1_46) rfl rfl rfl (hV.2.1 _ nw_2_53) (htc _ w_1_1) (by decide +kernel) ⟨(Nat.le_of_ble_eq_true rfl), (Nat.le_of_ble_eq_true rfl)⟩, htc _ w_1_45, trivial⟩ (rk_preS hP hD hS hR hn hPL hnl hV [1] [] rfl (by decide) rfl (by decide)) rfl rfl hl.1 rfl (lv_room (Nat.le_of_ble_eq_true rfl)) dX8_grow_37 ⟨(Nat.le_of_ble_eq_true rfl), (Nat.le_of_ble_eq_true rfl)⟩) hP hD hS hA hR0 hn [1] [0] rfl rfl (by decide) (by decide) (fun H locs hP hD hS hR => ?_)
          have hP : va_P D vwCl [(a_p2, .inl (cI, 60, .inl b9_c_p2)), (a_p3_starts, .inl (cI, 60, .inl r_37))] H := hP
          have hD : va_D A [(a_p2, .inl (cI, 60, .inl b9_c_p2)), (a_p3_starts, .inl (cI, 60, .inl r_37))] := hD
          refine lv_iinc (v := (b9_l5 + 1)) (lv' := [(5, .int (b9_l5 + 1)), (0, .ref a_p0), (1, .int v_p1), (2, .ref a_p2), (3, .ref a_p3), (4, .int b9_l4), (6, .int b9_l6)]) hx hb dX8_grow_40 hl (k := 5) rfl rfl (by decide) rfl (fun ls hl => ?_)
          refine lv_iinc (v := (b9_l4 + 1)) (lv' := [(4, .int (b9_l4 + 1)), (5, .int (b9_l5 + 1)), (0, .ref a_p0), (1, .int v_p1), (2, .ref a_p2), (3, .ref a_p3), (6, .int b9_l6)]) hx hb dX8_grow_43 hl (k := 5) rfl rfl (by decide) rfl (fun ls hl => ?_)
          refine lv_goto (tgt := 76) hx hb dX8_grow_46 (by decide) ?_
          exact B76 (b9_l4 + 1) (b9_l5 + 1) b9_c_p2 r_37 h _ _ hP hD hS _ (lv_sub hl [2, 3, 4, 5, 0, 1, 6] rfl)
  exact L9 FU (0 : Int32) (0 : Int32) (0 : Int32) c_p2 c_p3_starts h _ _ hP hD hS _ (lv_sub hl [3, 4, 5, 6, 2, 1, 0] rfl)
set_option maxHeartbeats 4000000 in
set_option maxRecDepth 100000 in
theorem mtX9_init (l : Launch) (D : va_G) (cI cJ cO : ClassId) (PL : va_W) (sz : Nat) (a_this : Nat) (r0 : (Nat → Int64) × (Nat → Int32) × (Nat → Int64) × Int32 × Int64 × Fm) (h : fX9_init = some r0) : Met l yX9_init (rk_w yX9_init cX9_init 1 none) rmX9_init (va_Pc [.ref a_this] (rk_B D (rk_TY cI cJ cO) [(a_this, .inr (8, [.null, .null, .null, .null, .null]))] [] PL sz)) (rk_Qve D (fun q => [(a_this, .inr (8, [.ref (q 0), .ref (q 1), .ref (q 2), .ref (q 10), .ref (q 13)])), ((q 0), .inl (cI, 60, .inl rk_z32)), ((q 1), .inl (cI, 60, .inl rk_z32)), ((q 2), .inr (2, [.ref (q 3), .ref (q 4), .ref (q 5), .ref (q 6), .ref (q 7), .ref (q 8), .ref (q 9)])), ((q 3), .inl (cJ, 1891, .inr (.inl r0.1))), ((q 4), .inl (cI, 1891, .inl r0.2.1)), ((q 5), .inl (cJ, 31, .inr (.inl r0.2.2.1))), ((q 6), .inl (cI, 60, .inl rk_z32)), ((q 7), .inl (cI, 60, .inl rk_z32)), ((q 8), .inl (cJ, 60, .inr (.inl rk_z64))), ((q 9), .inl (cI, 4, .inl rk_z32)), ((q 10), .inr (0, [.ref (q 11), .ref (q 12), .int r0.2.2.2.1, .long r0.2.2.2.2.1])), ((q 11), .inl (cO, 10, .inr (.inr (.inr (.inr rk_zO))))), ((q 12), .inl (cJ, 10, .inr (.inl rk_z64))), ((q 13), rk_fam r0.2.2.2.2.2)]) [(a_this, .inr (8, [.null, .null, .null, .null, .null]))] sz) 14 4153 (va_A [(a_this, .inr (8, [.null, .null, .null, .null, .null]))] sz) := by
  refine rk_metve h (fun x q => [(a_this, .inr (8, [.ref (q 0), .ref (q 1), .ref (q 2), .ref (q 10), .ref (q 13)])), ((q 0), .inl (cI, 60, .inl rk_z32)), ((q 1), .inl (cI, 60, .inl rk_z32)), ((q 2), .inr (2, [.ref (q 3), .ref (q 4), .ref (q 5), .ref (q 6), .ref (q 7), .ref (q 8), .ref (q 9)])), ((q 3), .inl (cJ, 1891, .inr (.inl x.1))), ((q 4), .inl (cI, 1891, .inl x.2.1)), ((q 5), .inl (cJ, 31, .inr (.inl x.2.2.1))), ((q 6), .inl (cI, 60, .inl rk_z32)), ((q 7), .inl (cI, 60, .inl rk_z32)), ((q 8), .inl (cJ, 60, .inr (.inl rk_z64))), ((q 9), .inl (cI, 4, .inl rk_z32)), ((q 10), .inr (0, [.ref (q 11), .ref (q 12), .int x.2.2.2.1, .long x.2.2.2.2.1])), ((q 11), .inl (cO, 10, .inr (.inr (.inr (.inr rk_zO))))), ((q 12), .inl (cJ, 10, .inr (.inl rk_z64))), ((q 13), rk_fam x.2.2.2.2.2)]) (by decide) (Nat.le_of_ble_eq_true rfl) ?_
  intro p e s m args below meth c A ls Q hret hname hF hP hD hA hV hR0 hn hPL hnl hl h hS
  have hx := hF.1
  have hb := hF.2.1
  have hml := hF.2.2.1
  have hown : s.vm.findClass RX9 = some m.cls := hF.2.2.2.1
  have htc := hF.2.2.2.2
  have hname : meth.name = "<init>" := hname
  have hP : va_P D vwCl [(a_this, .inr (8, [.null, .null, .null, .null, .null]))] s.heap := hP
  have hD : va_D A [(a_this, .inr (8, [.null, .null, .null, .null, .null]))] := hD
  have hR0 : va_P D vwCl [] s.heap := hR0
  have hR := hR0
  have hl : lv_has ls 1 [(0, .ref a_this)] := hl
  unfold fX9_init at h
  refine lv_aload_n hx hb dX9_init_0 rfl (lv_at hl 0 rfl) ?_
  refine W.objInit hx hb hown (htc _ w_1_20) (htc _ w_1_21) (htc _ w_1_22) rfl (by rw [hml]; exact hl.1) rfl dX9_init_1 (Nat.le_of_ble_eq_true rfl) (Nat.le_of_ble_eq_true rfl) ?_
  refine W.eq (g2 := F0 m 4 ls []) rfl ?_
  refine lv_aload_n hx hb dX9_init_4 rfl (lv_at hl 0 rfl) ?_
  refine lv_bipush (v := 60) hx hb dX9_init_5 (by decide) ?_
  refine rk_newI (N := 60) hx hb (htc _ w_1_83) hV hP hD hS hA rfl (by decide) (by decide) (Nat.le_of_ble_eq_true rfl) (Nat.le_of_ble_eq_true rfl) (Nat.le_of_ble_eq_true rfl) dX9_init_7 (fun q_7 H hP hD hS => ?_)
  have hP : va_P D vwCl [(a_this, .inr (8, [.null, .null, .null, .null, .null])), (q_7, .inl (cI, 60, .inl rk_z32))] H := hP
  have hD : va_D A [(a_this, .inr (8, [.null, .null, .null, .null, .null])), (q_7, .inl (cI, 60, .inl rk_z32))] := hD
  refine va_putF (D := D) (ci := 8) (v := .ref q_7) (ty := (.array .int)) (C := RX9) (T := TX9) (N := 5) hx hb htc inX9 tyX9 tyX9_ok nmX9 hown hV.1 hP hD hS 0 rfl rfl 0 (by decide) (htc _ w_1_152) (fun _ h9 => h9) rfl hname rfl (by decide +kernel) rfl rfl (Nat.le_of_ble_eq_true rfl) dX9_init_9 (fun H locs hP hD hS => ?_)
  have hP : va_P D vwCl [(a_this, .inr (8, [.ref q_7, .null, .null, .null, .null])), (q_7, .inl (cI, 60, .inl rk_z32))] H := hP
  have hD : va_D A [(a_this, .inr (8, [.ref q_7, .null, .null, .null, .null])), (q_7, .inl (cI, 60, .inl rk_z32))] := hD
  refine lv_aload_n hx hb dX9_init_12 rfl (lv_at hl 0 rfl) ?_
  refine lv_bipush (v := 60) hx hb dX9_init_13 (by decide) ?_
  refine rk_newI (N := 60) hx hb (htc _ w_1_83) hV hP hD hS hA rfl (by decide) (by decide) (Nat.le_of_ble_eq_true rfl) (Nat.le_of_ble_eq_true rfl) (Nat.le_of_ble_eq_true rfl) dX9_init_15 (fun q_15 H hP hD hS => ?_)
  have hP : va_P D vwCl [(a_this, .inr (8, [.ref q_7, .null, .null, .null, .null])), (q_7, .inl (cI, 60, .inl rk_z32)), (q_15, .inl (cI, 60, .inl rk_z32))] H := hP
  have hD : va_D A [(a_this, .inr (8, [.ref q_7, .null, .null, .null, .null])), (q_7, .inl (cI, 60, .inl rk_z32)), (q_15, .inl (cI, 60, .inl rk_z32))] := hD
  refine va_putF (D := D) (ci := 8) (v := .ref q_15) (ty := (.array .int)) (C := RX9) (T := TX9) (N := 5) hx hb htc inX9 tyX9 tyX9_ok nmX9 hown hV.1 hP hD hS 0 rfl rfl 1 (by decide) (htc _ w_1_153) (fun _ h9 => h9) rfl hname rfl (by decide +kernel) rfl rfl (Nat.le_of_ble_eq_true rfl) dX9_init_17 (fun H locs hP hD hS => ?_)
  have hP : va_P D vwCl [(a_this, .inr (8, [.ref q_7, .ref q_15, .null, .null, .null])), (q_7, .inl (cI, 60, .inl rk_z32)), (q_15, .inl (cI, 60, .inl rk_z32))] H := hP
  have hD : va_D A [(a_this, .inr (8, [.ref q_7, .ref q_15, .null, .null, .null])), (q_7, .inl (cI, 60, .inl rk_z32)), (q_15, .inl (cI, 60, .inl rk_z32))] := hD
  refine lv_aload_n hx hb dX9_init_20 rfl (lv_at hl 0 rfl) ?_
  refine va_new (ci := 2) (fs := [.null, .null, .null, .null, .null, .null, .null]) (C := RX2) (T := TX2) (N := 7) hx hb htc inX2 tyX2 tyX2_ok hown (htc _ w_1_23) (htc _ w_1_24) (htc _ w_1_2) hV.1 hP hD hS hA rfl (fun j hj => by rcases (show j = 0 ∨ j = 1 ∨ j = 2 ∨ j = 3 ∨ j = 4 ∨ j = 5 ∨ j = 6 by omega) with rfl | rfl | rfl | rfl | rfl | rfl | rfl <;> rfl) (Nat.le_of_ble_eq_true rfl) (Nat.le_of_ble_eq_true rfl) dX9_init_21 (fun q_21 H hP hD hS => ?_)
  have hP : va_P D vwCl [(a_this, .inr (8, [.ref q_7, .ref q_15, .null, .null, .null])), (q_7, .inl (cI, 60, .inl rk_z32)), (q_15, .inl (cI, 60, .inl rk_z32)), (q_21, .inr (2, [.null, .null, .null, .null, .null, .null, .null]))] H := hP
  have hD : va_D A [(a_this, .inr (8, [.ref q_7, .ref q_15, .null, .null, .null])), (q_7, .inl (cI, 60, .inl rk_z32)), (q_15, .inl (cI, 60, .inl rk_z32)), (q_21, .inr (2, [.null, .null, .null, .null, .null, .null, .null]))] := hD
  refine lv_dup hx hb dX9_init_24 rfl ?_
  obtain ⟨r_25, hc_25, h⟩ := rk_bd h
  refine rk_ve (wr := [(a_this, .inr (8, [.ref q_7, .ref q_15, .null, .null, .null])), (q_7, .inl (cI, 60, .inl rk_z32)), (q_15, .inl (cI, 60, .inl rk_z32))]) (va_runIN (As := []) (rest := [.ref q_21, .ref a_this]) hF (mtX2_init l D cI cJ cO PL _ q_21 r_25 hc_25) ⟨va_cnB 0 htc (rk_gw w_1_27) rfl rfl rfl (hV.2.1 _ nw_1_25) (htc _ w_1_2) (by decide +kernel) ⟨(Nat.le_of_ble_eq_true rfl), (Nat.le_of_ble_eq_true rfl)⟩, rfl, htc _ w_1_26⟩ (rk_preS hP hD hS rk_nilP hn hPL hnl hV [3] [] rfl (by decide) rfl (by decide)) rfl rfl hl.1 rfl (lv_room (Nat.le_of_ble_eq_true rfl)) dX9_init_25 ⟨(Nat.le_of_ble_eq_true rfl), (Nat.le_of_ble_eq_true rfl)⟩) hP hD hS hA hR0 hn [3] [0, 1, 2] rfl rfl (by decide) (by decide) (fun g_25 H locs hP hD hS hR => ?_)
  have hP : va_P D vwCl [(a_this, .inr (8, [.ref q_7, .ref q_15, .null, .null, .null])), (q_7, .inl (cI, 60, .inl rk_z32)), (q_15, .inl (cI, 60, .inl rk_z32)), (q_21, .inr (2, [.ref (g_25 0), .ref (g_25 1), .ref (g_25 2), .ref (g_25 3), .ref (g_25 4), .ref (g_25 5), .ref (g_25 6)])), ((g_25 0), .inl (cJ, 1891, .inr (.inl r_25.1))), ((g_25 1), .inl (cI, 1891, .inl r_25.2.1)), ((g_25 2), .inl (cJ, 31, .inr (.inl r_25.2.2))), ((g_25 3), .inl (cI, 60, .inl rk_z32)), ((g_25 4), .inl (cI, 60, .inl rk_z32)), ((g_25 5), .inl (cJ, 60, .inr (.inl rk_z64))), ((g_25 6), .inl (cI, 4, .inl rk_z32))] H := hP
  have hD : va_D A [(a_this, .inr (8, [.ref q_7, .ref q_15, .null, .null, .null])), (q_7, .inl (cI, 60, .inl rk_z32)), (q_15, .inl (cI, 60, .inl rk_z32)), (q_21, .inr (2, [.ref (g_25 0), .ref (g_25 1), .ref (g_25 2), .ref (g_25 3), .ref (g_25 4), .ref (g_25 5), .ref (g_25 6)])), ((g_25 0), .inl (cJ, 1891, .inr (.inl r_25.1))), ((g_25 1), .inl (cI, 1891, .inl r_25.2.1)), ((g_25 2), .inl (cJ, 31, .inr (.inl r_25.2.2))), ((g_25 3), .inl (cI, 60, .inl rk_z32)), ((g_25 4), .inl (cI, 60, .inl rk_z32)), ((g_25 5), .inl (cJ, 60, .inr (.inl rk_z64))), ((g_25 6), .inl (cI, 4, .inl rk_z32))] := hD
  refine va_putF (D := D) (ci := 8) (v := .ref q_21) (ty := (.object "EnumerativeCoder$Desk")) (C := RX9) (T := TX9) (N := 5) hx hb htc inX9 tyX9 tyX9_ok nmX9 hown hV.1 hP hD hS 0 rfl rfl 2 (by decide) (htc _ w_1_154) (fun _ h9 => h9) rfl hname rfl (by decide +kernel) rfl rfl (Nat.le_of_ble_eq_true rfl) dX9_init_28 (fun H locs hP hD hS => ?_)
  have hP : va_P D vwCl [(a_this, .inr (8, [.ref q_7, .ref q_15, .ref q_21, .null, .null])), (q_7, .inl (cI, 60, .inl rk_z32)), (q_15, .inl (cI, 60, .inl rk_z32)), (q_21, .inr (2, [.ref (g_25 0), .ref (g_25 1), .ref (g_25 2), .ref (g_25 3), .ref (g_25 4), .ref (g_25 5), .ref (g_25 6)])), ((g_25 0), .inl (cJ, 1891, .inr (.inl r_25.1))), ((g_25 1), .inl (cI, 1891, .inl r_25.2.1)), ((g_25 2), .inl (cJ, 31, .inr (.inl r_25.2.2))), ((g_25 3), .inl (cI, 60, .inl rk_z32)), ((g_25 4), .inl (cI, 60, .inl rk_z32)), ((g_25 5), .inl (cJ, 60, .inr (.inl rk_z64))), ((g_25 6), .inl (cI, 4, .inl rk_z32))] H := hP
  have hD : va_D A [(a_this, .inr (8, [.ref q_7, .ref q_15, .ref q_21, .null, .null])), (q_7, .inl (cI, 60, .inl rk_z32)), (q_15, .inl (cI, 60, .inl rk_z32)), (q_21, .inr (2, [.ref (g_25 0), .ref (g_25 1), .ref (g_25 2), .ref (g_25 3), .ref (g_25 4), .ref (g_25 5), .ref (g_25 6)])), ((g_25 0), .inl (cJ, 1891, .inr (.inl r_25.1))), ((g_25 1), .inl (cI, 1891, .inl r_25.2.1)), ((g_25 2), .inl (cJ, 31, .inr (.inl r_25.2.2))), ((g_25 3), .inl (cI, 60, .inl rk_z32)), ((g_25 4), .inl (cI, 60, .inl rk_z32)), ((g_25 5), .inl (cJ, 60, .inr (.inl rk_z64))), ((g_25 6), .inl (cI, 4, .inl rk_z32))] := hD
  refine lv_aload_n hx hb dX9_init_31 rfl (lv_at hl 0 rfl) ?_
  refine va_new (ci := 0) (fs := [.null, .null, .int 0, .long 0]) (C := RX0) (T := TX0) (N := 4) hx hb htc inX0 tyX0 tyX0_ok hown (htc _ w_1_85) (htc _ w_1_86) (htc _ w_1_4) hV.1 hP hD hS hA rfl (fun j hj => by rcases (show j = 0 ∨ j = 1 ∨ j = 2 ∨ j = 3 by omega) with rfl | rfl | rfl | rfl <;> rfl) (Nat.le_of_ble_eq_true rfl) (Nat.le_of_ble_eq_true rfl) dX9_init_32 (fun q_32 H hP hD hS => ?_)
  have hP : va_P D vwCl [(a_this, .inr (8, [.ref q_7, .ref q_15, .ref q_21, .null, .null])), (q_7, .inl (cI, 60, .inl rk_z32)), (q_15, .inl (cI, 60, .inl rk_z32)), (q_21, .inr (2, [.ref (g_25 0), .ref (g_25 1), .ref (g_25 2), .ref (g_25 3), .ref (g_25 4), .ref (g_25 5), .ref (g_25 6)])), ((g_25 0), .inl (cJ, 1891, .inr (.inl r_25.1))), ((g_25 1), .inl (cI, 1891, .inl r_25.2.1)), ((g_25 2), .inl (cJ, 31, .inr (.inl r_25.2.2))), ((g_25 3), .inl (cI, 60, .inl rk_z32)), ((g_25 4), .inl (cI, 60, .inl rk_z32)), ((g_25 5), .inl (cJ, 60, .inr (.inl rk_z64))), ((g_25 6), .inl (cI, 4, .inl rk_z32)), (q_32, .inr (0, [.null, .null, .int 0, .long 0]))] H := hP
  have hD : va_D A [(a_this, .inr (8, [.ref q_7, .ref q_15, .ref q_21, .null, .null])), (q_7, .inl (cI, 60, .inl rk_z32)), (q_15, .inl (cI, 60, .inl rk_z32)), (q_21, .inr (2, [.ref (g_25 0), .ref (g_25 1), .ref (g_25 2), .ref (g_25 3), .ref (g_25 4), .ref (g_25 5), .ref (g_25 6)])), ((g_25 0), .inl (cJ, 1891, .inr (.inl r_25.1))), ((g_25 1), .inl (cI, 1891, .inl r_25.2.1)), ((g_25 2), .inl (cJ, 31, .inr (.inl r_25.2.2))), ((g_25 3), .inl (cI, 60, .inl rk_z32)), ((g_25 4), .inl (cI, 60, .inl rk_z32)), ((g_25 5), .inl (cJ, 60, .inr (.inl rk_z64))), ((g_25 6), .inl (cI, 4, .inl rk_z32)), (q_32, .inr (0, [.null, .null, .int 0, .long 0]))] := hD
  refine lv_dup hx hb dX9_init_35 rfl ?_
  obtain ⟨r_36, hc_36, h⟩ := rk_bd h
  refine rk_ve (wr := [(a_this, .inr (8, [.ref q_7, .ref q_15, .ref q_21, .null, .null])), (q_7, .inl (cI, 60, .inl rk_z32)), (q_15, .inl (cI, 60, .inl rk_z32)), (q_21, .inr (2, [.ref (g_25 0), .ref (g_25 1), .ref (g_25 2), .ref (g_25 3), .ref (g_25 4), .ref (g_25 5), .ref (g_25 6)])), ((g_25 0), .inl (cJ, 1891, .inr (.inl r_25.1))), ((g_25 1), .inl (cI, 1891, .inl r_25.2.1)), ((g_25 2), .inl (cJ, 31, .inr (.inl r_25.2.2))), ((g_25 3), .inl (cI, 60, .inl rk_z32)), ((g_25 4), .inl (cI, 60, .inl rk_z32)), ((g_25 5), .inl (cJ, 60, .inr (.inl rk_z64))), ((g_25 6), .inl (cI, 4, .inl rk_z32))]) (va_runIN (As := []) (rest := [.ref q_32, .ref a_this]) hF (mtX0_init l D cI cJ cO PL _ q_32 r_36 hc_36) ⟨va_cnB 0 htc (rk_gw w_1_89) rfl rfl rfl (hV.2.1 _ nw_1_87) (htc _ w_1_4) (by decide +kernel) ⟨(Nat.le_of_ble_eq_true rfl), (Nat.le_of_ble_eq_true rfl)⟩, rfl, htc _ w_1_88⟩ (rk_preS hP hD hS rk_nilP hn hPL hnl hV [11] [] rfl (by decide) rfl (by decide)) rfl rfl hl.1 rfl (lv_room (Nat.le_of_ble_eq_true rfl)) dX9_init_36 ⟨(Nat.le_of_ble_eq_true rfl), (Nat.le_of_ble_eq_true rfl)⟩) hP hD hS hA hR0 hn [11] [0, 1, 2, 3, 4, 5, 6, 7, 8, 9, 10] rfl rfl (by decide) (by decide) (fun g_36 H locs hP hD hS hR => ?_)
  have hP : va_P D vwCl [(a_this, .inr (8, [.ref q_7, .ref q_15, .ref q_21, .null, .null])), (q_7, .inl (cI, 60, .inl rk_z32)), (q_15, .inl (cI, 60, .inl rk_z32)), (q_21, .inr (2, [.ref (g_25 0), .ref (g_25 1), .ref (g_25 2), .ref (g_25 3), .ref (g_25 4), .ref (g_25 5), .ref (g_25 6)])), ((g_25 0), .inl (cJ, 1891, .inr (.inl r_25.1))), ((g_25 1), .inl (cI, 1891, .inl r_25.2.1)), ((g_25 2), .inl (cJ, 31, .inr (.inl r_25.2.2))), ((g_25 3), .inl (cI, 60, .inl rk_z32)), ((g_25 4), .inl (cI, 60, .inl rk_z32)), ((g_25 5), .inl (cJ, 60, .inr (.inl rk_z64))), ((g_25 6), .inl (cI, 4, .inl rk_z32)), (q_32, .inr (0, [.ref (g_36 0), .ref (g_36 1), .int r_36.1, .long r_36.2])), ((g_36 0), .inl (cO, 10, .inr (.inr (.inr (.inr rk_zO))))), ((g_36 1), .inl (cJ, 10, .inr (.inl rk_z64)))] H := hP
  have hD : va_D A [(a_this, .inr (8, [.ref q_7, .ref q_15, .ref q_21, .null, .null])), (q_7, .inl (cI, 60, .inl rk_z32)), (q_15, .inl (cI, 60, .inl rk_z32)), (q_21, .inr (2, [.ref (g_25 0), .ref (g_25 1), .ref (g_25 2), .ref (g_25 3), .ref (g_25 4), .ref (g_25 5), .ref (g_25 6)])), ((g_25 0), .inl (cJ, 1891, .inr (.inl r_25.1))), ((g_25 1), .inl (cI, 1891, .inl r_25.2.1)), ((g_25 2), .inl (cJ, 31, .inr (.inl r_25.2.2))), ((g_25 3), .inl (cI, 60, .inl rk_z32)), ((g_25 4), .inl (cI, 60, .inl rk_z32)), ((g_25 5), .inl (cJ, 60, .inr (.inl rk_z64))), ((g_25 6), .inl (cI, 4, .inl rk_z32)), (q_32, .inr (0, [.ref (g_36 0), .ref (g_36 1), .int r_36.1, .long r_36.2])), ((g_36 0), .inl (cO, 10, .inr (.inr (.inr (.inr rk_zO))))), ((g_36 1), .inl (cJ, 10, .inr (.inl rk_z64)))] := hD
  refine va_putF (D := D) (ci := 8) (v := .ref q_32) (ty := (.object "EnumerativeCoder$Archive")) (C := RX9) (T := TX9) (N := 5) hx hb htc inX9 tyX9 tyX9_ok nmX9 hown hV.1 hP hD hS 0 rfl rfl 3 (by decide) (htc _ w_1_155) (fun _ h9 => h9) rfl hname rfl (by decide +kernel) rfl rfl (Nat.le_of_ble_eq_true rfl) dX9_init_39 (fun H locs hP hD hS => ?_)
  have hP : va_P D vwCl [(a_this, .inr (8, [.ref q_7, .ref q_15, .ref q_21, .ref q_32, .null])), (q_7, .inl (cI, 60, .inl rk_z32)), (q_15, .inl (cI, 60, .inl rk_z32)), (q_21, .inr (2, [.ref (g_25 0), .ref (g_25 1), .ref (g_25 2), .ref (g_25 3), .ref (g_25 4), .ref (g_25 5), .ref (g_25 6)])), ((g_25 0), .inl (cJ, 1891, .inr (.inl r_25.1))), ((g_25 1), .inl (cI, 1891, .inl r_25.2.1)), ((g_25 2), .inl (cJ, 31, .inr (.inl r_25.2.2))), ((g_25 3), .inl (cI, 60, .inl rk_z32)), ((g_25 4), .inl (cI, 60, .inl rk_z32)), ((g_25 5), .inl (cJ, 60, .inr (.inl rk_z64))), ((g_25 6), .inl (cI, 4, .inl rk_z32)), (q_32, .inr (0, [.ref (g_36 0), .ref (g_36 1), .int r_36.1, .long r_36.2])), ((g_36 0), .inl (cO, 10, .inr (.inr (.inr (.inr rk_zO))))), ((g_36 1), .inl (cJ, 10, .inr (.inl rk_z64)))] H := hP
  have hD : va_D A [(a_this, .inr (8, [.ref q_7, .ref q_15, .ref q_21, .ref q_32, .null])), (q_7, .inl (cI, 60, .inl rk_z32)), (q_15, .inl (cI, 60, .inl rk_z32)), (q_21, .inr (2, [.ref (g_25 0), .ref (g_25 1), .ref (g_25 2), .ref (g_25 3), .ref (g_25 4), .ref (g_25 5), .ref (g_25 6)])), ((g_25 0), .inl (cJ, 1891, .inr (.inl r_25.1))), ((g_25 1), .inl (cI, 1891, .inl r_25.2.1)), ((g_25 2), .inl (cJ, 31, .inr (.inl r_25.2.2))), ((g_25 3), .inl (cI, 60, .inl rk_z32)), ((g_25 4), .inl (cI, 60, .inl rk_z32)), ((g_25 5), .inl (cJ, 60, .inr (.inl rk_z64))), ((g_25 6), .inl (cI, 4, .inl rk_z32)), (q_32, .inr (0, [.ref (g_36 0), .ref (g_36 1), .int r_36.1, .long r_36.2])), ((g_36 0), .inl (cO, 10, .inr (.inr (.inr (.inr rk_zO))))), ((g_36 1), .inl (cJ, 10, .inr (.inl rk_z64)))] := hD
  refine lv_aload_n hx hb dX9_init_42 rfl (lv_at hl 0 rfl) ?_
  refine va_new (ci := 5) (fs := [.int 0, .int 0, .long 0, .int 0, .int 0]) (C := RX6) (T := TX6) (N := 5) hx hb htc inX6 tyX6 tyX6_ok hown (htc _ w_1_108) (htc _ w_1_109) (htc _ w_1_6) hV.1 hP hD hS hA rfl (fun j hj => by rcases (show j = 0 ∨ j = 1 ∨ j = 2 ∨ j = 3 ∨ j = 4 by omega) with rfl | rfl | rfl | rfl | rfl <;> rfl) (Nat.le_of_ble_eq_true rfl) (Nat.le_of_ble_eq_true rfl) dX9_init_43 (fun q_43 H hP hD hS => ?_)
  have hP : va_P D vwCl [(a_this, .inr (8, [.ref q_7, .ref q_15, .ref q_21, .ref q_32, .null])), (q_7, .inl (cI, 60, .inl rk_z32)), (q_15, .inl (cI, 60, .inl rk_z32)), (q_21, .inr (2, [.ref (g_25 0), .ref (g_25 1), .ref (g_25 2), .ref (g_25 3), .ref (g_25 4), .ref (g_25 5), .ref (g_25 6)])), ((g_25 0), .inl (cJ, 1891, .inr (.inl r_25.1))), ((g_25 1), .inl (cI, 1891, .inl r_25.2.1)), ((g_25 2), .inl (cJ, 31, .inr (.inl r_25.2.2))), ((g_25 3), .inl (cI, 60, .inl rk_z32)), ((g_25 4), .inl (cI, 60, .inl rk_z32)), ((g_25 5), .inl (cJ, 60, .inr (.inl rk_z64))), ((g_25 6), .inl (cI, 4, .inl rk_z32)), (q_32, .inr (0, [.ref (g_36 0), .ref (g_36 1), .int r_36.1, .long r_36.2])), ((g_36 0), .inl (cO, 10, .inr (.inr (.inr (.inr rk_zO))))), ((g_36 1), .inl (cJ, 10, .inr (.inl rk_z64))), (q_43, .inr (5, [.int 0, .int 0, .long 0, .int 0, .int 0]))] H := hP
  have hD : va_D A [(a_this, .inr (8, [.ref q_7, .ref q_15, .ref q_21, .ref q_32, .null])), (q_7, .inl (cI, 60, .inl rk_z32)), (q_15, .inl (cI, 60, .inl rk_z32)), (q_21, .inr (2, [.ref (g_25 0), .ref (g_25 1), .ref (g_25 2), .ref (g_25 3), .ref (g_25 4), .ref (g_25 5), .ref (g_25 6)])), ((g_25 0), .inl (cJ, 1891, .inr (.inl r_25.1))), ((g_25 1), .inl (cI, 1891, .inl r_25.2.1)), ((g_25 2), .inl (cJ, 31, .inr (.inl r_25.2.2))), ((g_25 3), .inl (cI, 60, .inl rk_z32)), ((g_25 4), .inl (cI, 60, .inl rk_z32)), ((g_25 5), .inl (cJ, 60, .inr (.inl rk_z64))), ((g_25 6), .inl (cI, 4, .inl rk_z32)), (q_32, .inr (0, [.ref (g_36 0), .ref (g_36 1), .int r_36.1, .long r_36.2])), ((g_36 0), .inl (cO, 10, .inr (.inr (.inr (.inr rk_zO))))), ((g_36 1), .inl (cJ, 10, .inr (.inl rk_z64))), (q_43, .inr (5, [.int 0, .int 0, .long 0, .int 0, .int 0]))] := hD
  refine lv_dup hx hb dX9_init_46 rfl ?_
  refine lv_iconst (v := 0) hx hb dX9_init_47 (by decide) ?_
  refine lv_iconst (v := 0) hx hb dX9_init_48 (by decide) ?_
  refine lv_iconst (v := 0) hx hb dX9_init_49 (by decide) ?_
  refine lv_lconst (v := 1) hx hb dX9_init_50 (by decide) ?_
  obtain ⟨r_51, hc_51, h⟩ := rk_bd h
  refine rk_v (wr := [(a_this, .inr (8, [.ref q_7, .ref q_15, .ref q_21, .ref q_32, .null])), (q_7, .inl (cI, 60, .inl rk_z32)), (q_15, .inl (cI, 60, .inl rk_z32)), (q_21, .inr (2, [.ref (g_25 0), .ref (g_25 1), .ref (g_25 2), .ref (g_25 3), .ref (g_25 4), .ref (g_25 5), .ref (g_25 6)])), ((g_25 0), .inl (cJ, 1891, .inr (.inl r_25.1))), ((g_25 1), .inl (cI, 1891, .inl r_25.2.1)), ((g_25 2), .inl (cJ, 31, .inr (.inl r_25.2.2))), ((g_25 3), .inl (cI, 60, .inl rk_z32)), ((g_25 4), .inl (cI, 60, .inl rk_z32)), ((g_25 5), .inl (cJ, 60, .inr (.inl rk_z64))), ((g_25 6), .inl (cI, 4, .inl rk_z32)), (q_32, .inr (0, [.ref (g_36 0), .ref (g_36 1), .int r_36.1, .long r_36.2])), ((g_36 0), .inl (cO, 10, .inr (.inr (.inr (.inr rk_zO))))), ((g_36 1), .inl (cJ, 10, .inr (.inl rk_z64)))]) (va_runIN (As := [.int (0 : Int32), .int (0 : Int32), .int (0 : Int32), .long (1 : Int64)]) (rest := [.ref q_43, .ref a_this]) hF (mtX6_init l D cI cJ cO PL _ q_43 (0 : Int32) (0 : Int32) (0 : Int32) (1 : Int64) r_51 hc_51) ⟨va_cnB 4 htc (rk_gw w_1_112) rfl rfl rfl (hV.2.1 _ nw_1_110) (htc _ w_1_6) (by decide +kernel) ⟨(Nat.le_of_ble_eq_true rfl), (Nat.le_of_ble_eq_true rfl)⟩, rfl, htc _ w_1_111⟩ (rk_preS hP hD hS rk_nilP hn hPL hnl hV [14] [] rfl (by decide) rfl (by decide)) rfl rfl hl.1 rfl (lv_room (Nat.le_of_ble_eq_true rfl)) dX9_init_51 ⟨(Nat.le_of_ble_eq_true rfl), (Nat.le_of_ble_eq_true rfl)⟩) hP hD hS hA hR0 hn [14] [0, 1, 2, 3, 4, 5, 6, 7, 8, 9, 10, 11, 12, 13] rfl rfl (by decide) (by decide) (fun H locs hP hD hS hR => ?_)
  have hP : va_P D vwCl [(a_this, .inr (8, [.ref q_7, .ref q_15, .ref q_21, .ref q_32, .null])), (q_7, .inl (cI, 60, .inl rk_z32)), (q_15, .inl (cI, 60, .inl rk_z32)), (q_21, .inr (2, [.ref (g_25 0), .ref (g_25 1), .ref (g_25 2), .ref (g_25 3), .ref (g_25 4), .ref (g_25 5), .ref (g_25 6)])), ((g_25 0), .inl (cJ, 1891, .inr (.inl r_25.1))), ((g_25 1), .inl (cI, 1891, .inl r_25.2.1)), ((g_25 2), .inl (cJ, 31, .inr (.inl r_25.2.2))), ((g_25 3), .inl (cI, 60, .inl rk_z32)), ((g_25 4), .inl (cI, 60, .inl rk_z32)), ((g_25 5), .inl (cJ, 60, .inr (.inl rk_z64))), ((g_25 6), .inl (cI, 4, .inl rk_z32)), (q_32, .inr (0, [.ref (g_36 0), .ref (g_36 1), .int r_36.1, .long r_36.2])), ((g_36 0), .inl (cO, 10, .inr (.inr (.inr (.inr rk_zO))))), ((g_36 1), .inl (cJ, 10, .inr (.inl rk_z64))), (q_43, .inr (5, [.int r_51.1, .int r_51.2.1, .long r_51.2.2.1, .int r_51.2.2.2.1, .int r_51.2.2.2.2]))] H := hP
  have hD : va_D A [(a_this, .inr (8, [.ref q_7, .ref q_15, .ref q_21, .ref q_32, .null])), (q_7, .inl (cI, 60, .inl rk_z32)), (q_15, .inl (cI, 60, .inl rk_z32)), (q_21, .inr (2, [.ref (g_25 0), .ref (g_25 1), .ref (g_25 2), .ref (g_25 3), .ref (g_25 4), .ref (g_25 5), .ref (g_25 6)])), ((g_25 0), .inl (cJ, 1891, .inr (.inl r_25.1))), ((g_25 1), .inl (cI, 1891, .inl r_25.2.1)), ((g_25 2), .inl (cJ, 31, .inr (.inl r_25.2.2))), ((g_25 3), .inl (cI, 60, .inl rk_z32)), ((g_25 4), .inl (cI, 60, .inl rk_z32)), ((g_25 5), .inl (cJ, 60, .inr (.inl rk_z64))), ((g_25 6), .inl (cI, 4, .inl rk_z32)), (q_32, .inr (0, [.ref (g_36 0), .ref (g_36 1), .int r_36.1, .long r_36.2])), ((g_36 0), .inl (cO, 10, .inr (.inr (.inr (.inr rk_zO))))), ((g_36 1), .inl (cJ, 10, .inr (.inl rk_z64))), (q_43, .inr (5, [.int r_51.1, .int r_51.2.1, .long r_51.2.2.1, .int r_51.2.2.2.1, .int r_51.2.2.2.2]))] := hD
  refine va_put (D := D) (ci := 8) (v := .ref q_43) (ty := (.object "EnumerativeCoder$Family")) (C := RX9) (T := TX9) (N := 5) hx hb htc inX9 tyX9 tyX9_ok nmX9 hown hV.1 hP hD hS 0 rfl rfl 4 (by decide) (htc _ w_1_156) (fun _ h9 => h9) rfl (by decide +kernel) rfl rfl (Nat.le_of_ble_eq_true rfl) dX9_init_54 (fun H locs hP hD hS => ?_)
  have hP : va_P D vwCl [(a_this, .inr (8, [.ref q_7, .ref q_15, .ref q_21, .ref q_32, .ref q_43])), (q_7, .inl (cI, 60, .inl rk_z32)), (q_15, .inl (cI, 60, .inl rk_z32)), (q_21, .inr (2, [.ref (g_25 0), .ref (g_25 1), .ref (g_25 2), .ref (g_25 3), .ref (g_25 4), .ref (g_25 5), .ref (g_25 6)])), ((g_25 0), .inl (cJ, 1891, .inr (.inl r_25.1))), ((g_25 1), .inl (cI, 1891, .inl r_25.2.1)), ((g_25 2), .inl (cJ, 31, .inr (.inl r_25.2.2))), ((g_25 3), .inl (cI, 60, .inl rk_z32)), ((g_25 4), .inl (cI, 60, .inl rk_z32)), ((g_25 5), .inl (cJ, 60, .inr (.inl rk_z64))), ((g_25 6), .inl (cI, 4, .inl rk_z32)), (q_32, .inr (0, [.ref (g_36 0), .ref (g_36 1), .int r_36.1, .long r_36.2])), ((g_36 0), .inl (cO, 10, .inr (.inr (.inr (.inr rk_zO))))), ((g_36 1), .inl (cJ, 10, .inr (.inl rk_z64))), (q_43, .inr (5, [.int r_51.1, .int r_51.2.1, .long r_51.2.2.1, .int r_51.2.2.2.1, .int r_51.2.2.2.2]))] H := hP
  have hD : va_D A [(a_this, .inr (8, [.ref q_7, .ref q_15, .ref q_21, .ref q_32, .ref q_43])), (q_7, .inl (cI, 60, .inl rk_z32)), (q_15, .inl (cI, 60, .inl rk_z32)), (q_21, .inr (2, [.ref (g_25 0), .ref (g_25 1), .ref (g_25 2), .ref (g_25 3), .ref (g_25 4), .ref (g_25 5), .ref (g_25 6)])), ((g_25 0), .inl (cJ, 1891, .inr (.inl r_25.1))), ((g_25 1), .inl (cI, 1891, .inl r_25.2.1)), ((g_25 2), .inl (cJ, 31, .inr (.inl r_25.2.2))), ((g_25 3), .inl (cI, 60, .inl rk_z32)), ((g_25 4), .inl (cI, 60, .inl rk_z32)), ((g_25 5), .inl (cJ, 60, .inr (.inl rk_z64))), ((g_25 6), .inl (cI, 4, .inl rk_z32)), (q_32, .inr (0, [.ref (g_36 0), .ref (g_36 1), .int r_36.1, .long r_36.2])), ((g_36 0), .inl (cO, 10, .inr (.inr (.inr (.inr rk_zO))))), ((g_36 1), .inl (cJ, 10, .inr (.inl rk_z64))), (q_43, .inr (5, [.int r_51.1, .int r_51.2.1, .long r_51.2.2.1, .int r_51.2.2.2.1, .int r_51.2.2.2.2]))] := hD
  refine W.widen (k := 14) (n := 4153) (Nat.le_of_ble_eq_true rfl) (Nat.le_of_ble_eq_true rfl) ?_
  exact hret (r_25.1, r_25.2.1, r_25.2.2, r_36.1, r_36.2, ((0, r_51.1, r_51.2.1, r_51.2.2.1, r_51.2.2.2.1, r_51.2.2.2.2, 0, 0) : Fm)) (rk_qs [q_7, q_15, q_21, (g_25 0), (g_25 1), (g_25 2), (g_25 3), (g_25 4), (g_25 5), (g_25 6), q_32, (g_36 0), (g_36 1), q_43]) _ _ _ _ h dX9_init_57 hP hD hS
set_option maxHeartbeats 4000000 in
set_option maxRecDepth 100000 in
theorem vr_lay {p : Program} {l : Launch} {e : Env} {R : Room} {s : State} {m : MethodId} {args : Array Value} {below : List Frame} {meth : Method} {c : Code} {H : Heap} {locs : List Loc} {cells slots : Nat} {cc : ByteArray} {nL : Nat} {own : String} {index : Nat} {g : JFrame} {As rest : List Value} (hF : CallFix p m c cc nL s args rk_c own) (htc : ∀ w ∈ rk_c, w.before args s = true) {D : va_G} {cI cJ cO : ClassId} (hV : rk_V D (rk_TY cI cJ cO) s) (hlk : Cond.methodLink own index ⟨"EnumerativeCoder$Family", "lay", "(J[ILEnumerativeCoder$Desk;)V"⟩ ∈ rk_c) (hu : () = ()) (PL : va_W) (a_p3 : Nat) (c_p3 : Nat → Int32) (a_this : Nat) (F_this : Fm) (a_p4 : Nat) (a_p4_binomials : Nat) (a_p4_partitionCounts : Nat) (a_p4_treeCounts : Nat) (a_p4_sizes : Nat) (a_p4_starts : Nat) (a_p4_ranks : Nat) (a_p4_letters : Nat) (c_p4_letters : Nat → Int32) (c_p4_ranks : Nat → Int64) (c_p4_sizes : Nat → Int32) (c_p4_binomials : Nat → Int64) (c_p4_partitionCounts : Nat → Int32) (c_p4_treeCounts : Nat → Int64) (v_p1 : Int64) (r0 : (Nat → Int32) × (Nat → Int32) × (Nat → Int64) × (Nat → Int32)) (h : v_lay c_p3 F_this c_p4_letters c_p4_ranks c_p4_sizes c_p4_binomials c_p4_partitionCounts c_p4_treeCounts v_p1 = some r0) (hcell : va_at D vwCl (a_this, rk_fam F_this) H) (hp : PreS s H (va_Pc (.ref a_this :: As) (rk_B D (rk_TY cI cJ cO) [(a_p3, .inl (cI, 60, .inl c_p3)), (a_p4_letters, .inl (cI, 4, .inl c_p4_letters)), (a_p4_ranks, .inl (cJ, 60, .inr (.inl c_p4_ranks))), (a_p4_sizes, .inl (cI, 60, .inl c_p4_sizes))] [(a_this, rk_fam F_this), (a_p4, .inr (2, [.ref a_p4_binomials, .ref a_p4_partitionCounts, .ref a_p4_treeCounts, .ref a_p4_sizes, .ref a_p4_starts, .ref a_p4_ranks, .ref a_p4_letters])), (a_p4_binomials, .inl (cJ, 1891, .inr (.inl c_p4_binomials))), (a_p4_partitionCounts, .inl (cI, 1891, .inl c_p4_partitionCounts)), (a_p4_treeCounts, .inl (cJ, 31, .inr (.inl c_p4_treeCounts)))] PL H.size)) (.ref a_this :: As)) (hg : g.method = m) (hn : As.length = 3) (hsize : g.locals.size = nL) (hstack : g.stack = As.reverse ++ .ref a_this :: rest) (hW : 2 * g.monitorRoom + (rest.map fun v => v.category).sum ≤ 8) (hdg : decode cc g.pc = .ok (.invokevirtual index, 3)) (hf : cells + 0 ≤ R.cells ∧ slots + 0 ≤ R.slots) (hfr : 5 ≤ R.frames) (hlo : 129 ≤ R.locals) (hAs : As = [.long v_p1, .ref a_p3, .ref a_p4]) : va_Run p l e R s m args below meth c H locs cells slots 0 0 g rest (rk_Qv D [(a_p3, .inl (cI, 60, .inl r0.1)), (a_p4_letters, .inl (cI, 4, .inl r0.2.1)), (a_p4_ranks, .inl (cJ, 60, .inr (.inl r0.2.2.1))), (a_p4_sizes, .inl (cI, 60, .inl r0.2.2.2))] [(a_p3, .inl (cI, 60, .inl c_p3)), (a_p4_letters, .inl (cI, 4, .inl c_p4_letters)), (a_p4_ranks, .inl (cJ, 60, .inr (.inl c_p4_ranks))), (a_p4_sizes, .inl (cI, 60, .inl c_p4_sizes))] H.size (Value.ref a_this :: As).toArray) (va_A [(a_p3, .inl (cI, 60, .inl c_p3)), (a_p4_letters, .inl (cI, 4, .inl c_p4_letters)), (a_p4_ranks, .inl (cJ, 60, .inr (.inl c_p4_ranks))), (a_p4_sizes, .inl (cI, 60, .inl c_p4_sizes))] H.size) := by
  subst hAs
  unfold v_lay at h
  by_cases k0 : F_this.1 = 0
  · have h := rk_if k0 h
    have hfam := rk_fam_0 k0
    rw [hfam] at hp hcell
    exact va_runU (C := RX6) (owner := "EnumerativeCoder$Family") hF (mtX6_lay l D cI cJ cO PL H.size a_p3 c_p3 a_this F_this.2.1 F_this.2.2.1 F_this.2.2.2.1 F_this.2.2.2.2.1 F_this.2.2.2.2.2.1 a_p4 a_p4_binomials a_p4_partitionCounts a_p4_treeCounts a_p4_sizes a_p4_starts a_p4_ranks a_p4_letters c_p4_letters c_p4_ranks c_p4_sizes c_p4_binomials c_p4_partitionCounts c_p4_treeCounts v_p1 r0 h) (va_cwA 3 htc (rk_gU hlk w_1_182 w_2_4 w_2_5 w_1_6 w_2_6) rfl rfl rfl (hV.2.1 _ nw_1_181) (by decide +kernel) ⟨Nat.le_trans (Nat.le_of_ble_eq_true rfl) hfr, Nat.le_trans (Nat.le_of_ble_eq_true rfl) hlo⟩) (rk_preV (va_recv hV.1 (rk_oneP hcell) (ci := 5) (q0 := 0) rfl rfl) hp) hg hn hsize hstack hW hdg hf
  have h := rk_nif k0 h
  by_cases k1 : F_this.1 = 1
  · have h := rk_if k1 h
    have hfam := rk_fam_1 k1
    rw [hfam] at hp hcell
    exact va_runU (C := RX5) (owner := "EnumerativeCoder$Family") hF (mtX5_lay l D cI cJ cO PL H.size a_p3 c_p3 a_this F_this.2.1 F_this.2.2.1 F_this.2.2.2.1 F_this.2.2.2.2.1 a_p4 a_p4_binomials a_p4_partitionCounts a_p4_treeCounts a_p4_sizes a_p4_starts a_p4_ranks a_p4_letters c_p4_letters c_p4_ranks c_p4_sizes c_p4_binomials c_p4_partitionCounts c_p4_treeCounts v_p1 r0 h) (va_cwA 3 htc (rk_gU hlk w_1_182 w_1_217 w_1_218 w_1_9 w_1_219) rfl rfl rfl (hV.2.1 _ nw_1_181) (by decide +kernel) ⟨Nat.le_trans (Nat.le_of_ble_eq_true rfl) hfr, Nat.le_trans (Nat.le_of_ble_eq_true rfl) hlo⟩) (rk_preV (va_recv hV.1 (rk_oneP hcell) (ci := 4) (q0 := 0) rfl rfl) hp) hg hn hsize hstack hW hdg hf
  have h := rk_nif k1 h
  by_cases k2 : F_this.1 = 2
  · have h := rk_if k2 h
    have hfam := rk_fam_2 k2
    rw [hfam] at hp hcell
    exact va_runU (C := RX8) (owner := "EnumerativeCoder$Family") hF (mtX8_lay l D cI cJ cO PL H.size a_p3 c_p3 a_this F_this.2.1 F_this.2.2.1 F_this.2.2.2.1 F_this.2.2.2.2.1 F_this.2.2.2.2.2.1 a_p4 a_p4_binomials a_p4_partitionCounts a_p4_treeCounts a_p4_sizes a_p4_starts a_p4_ranks a_p4_letters c_p4_letters c_p4_ranks c_p4_sizes c_p4_binomials c_p4_partitionCounts c_p4_treeCounts v_p1 r0 h) (va_cwA 3 htc (rk_gU hlk w_1_182 w_2_32 w_2_33 w_1_11 w_2_34) rfl rfl rfl (hV.2.1 _ nw_1_181) (by decide +kernel) ⟨Nat.le_trans (Nat.le_of_ble_eq_true rfl) hfr, Nat.le_trans (Nat.le_of_ble_eq_true rfl) hlo⟩) (rk_preV (va_recv hV.1 (rk_oneP hcell) (ci := 7) (q0 := 0) rfl rfl) hp) hg hn hsize hstack hW hdg hf
  have h := rk_nif k2 h
  by_cases k3 : F_this.1 = 3
  · have h := rk_if k3 h
    have hfam := rk_fam_3 k3
    rw [hfam] at hp hcell
    exact va_runU (C := RX7) (owner := "EnumerativeCoder$Family") hF (mtX7_lay l D cI cJ cO PL H.size a_p3 c_p3 a_this F_this.2.1 F_this.2.2.1 F_this.2.2.2.1 a_p4 a_p4_binomials a_p4_partitionCounts a_p4_treeCounts a_p4_sizes a_p4_starts a_p4_ranks a_p4_letters c_p4_letters c_p4_ranks c_p4_sizes c_p4_binomials c_p4_partitionCounts c_p4_treeCounts v_p1 r0 h) (va_cwA 3 htc (rk_gU hlk w_1_182 w_2_13 w_2_14 w_1_10 w_2_15) rfl rfl rfl (hV.2.1 _ nw_1_181) (by decide +kernel) ⟨Nat.le_trans (Nat.le_of_ble_eq_true rfl) hfr, Nat.le_trans (Nat.le_of_ble_eq_true rfl) hlo⟩) (rk_preV (va_recv hV.1 (rk_oneP hcell) (ci := 6) (q0 := 0) rfl rfl) hp) hg hn hsize hstack hW hdg hf
  have h := rk_nif k3 h
  by_cases k4 : F_this.1 = 4
  · have h := rk_if k4 h
    have hfam := rk_fam_4 k4
    rw [hfam] at hp hcell
    exact va_runU (C := RX4) (owner := "EnumerativeCoder$Family") hF (mtX4_lay l D cI cJ cO PL H.size a_p3 c_p3 a_this F_this.2.1 F_this.2.2.1 F_this.2.2.2.1 F_this.2.2.2.2.1 a_p4 a_p4_binomials a_p4_partitionCounts a_p4_treeCounts a_p4_sizes a_p4_starts a_p4_ranks a_p4_letters c_p4_letters c_p4_ranks c_p4_sizes c_p4_binomials c_p4_partitionCounts c_p4_treeCounts v_p1 r0 h) (va_cwA 3 htc (rk_gU hlk w_1_182 w_1_208 w_1_209 w_1_12 w_1_210) rfl rfl rfl (hV.2.1 _ nw_1_181) (by decide +kernel) ⟨Nat.le_trans (Nat.le_of_ble_eq_true rfl) hfr, Nat.le_trans (Nat.le_of_ble_eq_true rfl) hlo⟩) (rk_preV (va_recv hV.1 (rk_oneP hcell) (ci := 3) (q0 := 0) rfl rfl) hp) hg hn hsize hstack hW hdg hf
  have h := rk_nif k4 h
  have hfam := rk_fam_5 k0 k1 k2 k3 k4
  rw [hfam] at hp hcell
  exact va_runU (C := RX1) (owner := "EnumerativeCoder$Family") hF (mtX1_lay l D cI cJ cO PL H.size a_p3 c_p3 a_this F_this.2.1 F_this.2.2.1 F_this.2.2.2.1 F_this.2.2.2.2.1 F_this.2.2.2.2.2.1 F_this.2.2.2.2.2.2.1 F_this.2.2.2.2.2.2.2 a_p4 a_p4_binomials a_p4_partitionCounts a_p4_treeCounts a_p4_sizes a_p4_starts a_p4_ranks a_p4_letters c_p4_letters c_p4_ranks c_p4_sizes c_p4_binomials c_p4_partitionCounts c_p4_treeCounts v_p1 r0 h) (va_cwA 3 htc (rk_gU hlk w_1_182 w_1_183 w_1_184 w_1_8 w_1_185) rfl rfl rfl (hV.2.1 _ nw_1_181) (by decide +kernel) ⟨Nat.le_trans (Nat.le_of_ble_eq_true rfl) hfr, Nat.le_trans (Nat.le_of_ble_eq_true rfl) hlo⟩) (rk_preV (va_recv hV.1 (rk_oneP hcell) (ci := 1) (q0 := 0) rfl rfl) hp) hg hn hsize hstack hW hdg hf
set_option maxHeartbeats 4000000 in
set_option maxRecDepth 100000 in
theorem mtX9_takeDraft (l : Launch) (D : va_G) (cI cJ cO : ClassId) (PL : va_W) (sz : Nat) (a_this : Nat) (a_this_buffer : Nat) (a_this_draft : Nat) (a_this_desk : Nat) (a_this_archive : Nat) (a_this_present : Nat) (c_this_buffer : Nat → Int32) (c_this_draft : Nat → Int32) (F_this_present : Fm) (r0 : Int32 × (Nat → Int32)) (h : fX9_takeDraft c_this_buffer c_this_draft F_this_present = some r0) : Met l yX9_takeDraft (rk_w yX9_takeDraft cX9_takeDraft 4 (some .boolean)) rmX9_takeDraft (va_Pc [.ref a_this] (rk_B D (rk_TY cI cJ cO) [(a_this_buffer, .inl (cI, 60, .inl c_this_buffer))] [(a_this, .inr (8, [.ref a_this_buffer, .ref a_this_draft, .ref a_this_desk, .ref a_this_archive, .ref a_this_present])), (a_this_draft, .inl (cI, 60, .inl c_this_draft)), (a_this_present, rk_fam F_this_present)] PL sz)) (rk_Qi r0.1 D [(a_this_buffer, .inl (cI, 60, .inl r0.2))] [(a_this_buffer, .inl (cI, 60, .inl c_this_buffer))] sz) 0 0 (va_A [(a_this_buffer, .inl (cI, 60, .inl c_this_buffer))] sz) := by
  refine rk_metz h (fun x : Int32 × (Nat → Int32) => x.1) (fun x => [(a_this_buffer, .inl (cI, 60, .inl x.2))]) (by decide) (Nat.le_of_ble_eq_true rfl) ?_
  intro p e s m args below meth c A ls Q hret hname hF hP hD hA hV hR0 hn hPL hnl hl h hS
  have hx := hF.1
  have hb := hF.2.1
  have hml := hF.2.2.1
  have hown : s.vm.findClass RX9 = some m.cls := hF.2.2.2.1
  have htc := hF.2.2.2.2
  have hP : va_P D vwCl [(a_this_buffer, .inl (cI, 60, .inl c_this_buffer))] s.heap := hP
  have hD : va_D A [(a_this_buffer, .inl (cI, 60, .inl c_this_buffer))] := hD
  have hR0 : va_P D vwCl [(a_this, .inr (8, [.ref a_this_buffer, .ref a_this_draft, .ref a_this_desk, .ref a_this_archive, .ref a_this_present])), (a_this_draft, .inl (cI, 60, .inl c_this_draft)), (a_this_present, rk_fam F_this_present)] s.heap := hR0
  have hR := hR0
  have hl : lv_has ls 4 [(0, .ref a_this)] := hl
  unfold fX9_takeDraft at h
  refine lv_iconst (v := 0) hx hb dX9_takeDraft_0 (by decide) ?_
  refine lv_istore_n (lv' := [(1, .int (0 : Int32)), (0, .ref a_this)]) hx hb dX9_takeDraft_1 rfl hl (by decide) rfl (fun ls hl => ?_)
  refine lv_iconst (v := 0) hx hb dX9_takeDraft_2 (by decide) ?_
  refine lv_istore_n (lv' := [(2, .int (0 : Int32)), (1, .int (0 : Int32)), (0, .ref a_this)]) hx hb dX9_takeDraft_3 rfl hl (by decide) rfl (fun ls hl => ?_)
  have L4 : ∀ (n4 : Nat) (b4_l1 : Int32) (b4_l2 : Int32) (b4_c_this_buffer : Nat → Int32), rk_it3 (fX9_takeDraft_L4 c_this_draft F_this_present) n4 b4_l1 b4_l2 b4_c_this_buffer = some r0 → ∀ (H : Heap) (locs : List Loc), va_P D vwCl [(a_this_buffer, .inl (cI, 60, .inl b4_c_this_buffer))] H → va_D A [(a_this_buffer, .inl (cI, 60, .inl b4_c_this_buffer))] → va_S A s.heap H locs → ∀ (ls : Array Slot), lv_has ls 4 [(0, .ref a_this), (1, .int b4_l1), (2, .int b4_l2)] → W p l e rmX9_takeDraft s m args below meth c H locs 0 0 Q (F0 m 4 ls []) := by
    intro n4
    induction n4 with
    | zero => intro b4_l1 b4_l2 b4_c_this_buffer h; exact rk_no h
    | succ n4 ih4 =>
      intro b4_l1 b4_l2 b4_c_this_buffer h H locs hP hD hS ls hl
      have h : fX9_takeDraft_L4 c_this_draft F_this_present (rk_it3 (fX9_takeDraft_L4 c_this_draft F_this_present) n4) b4_l1 b4_l2 b4_c_this_buffer = some r0 := h
      unfold fX9_takeDraft_L4 at h
      have hR := rk_keep hR0 hn hS
      refine lv_iload_n hx hb dX9_takeDraft_4 rfl (lv_at hl 2 rfl) ?_
      refine lv_aload_n hx hb dX9_takeDraft_5 rfl (lv_at hl 0 rfl) ?_
      refine va_get (D := D) (ci := 8) (v := .ref a_this_present) (C := RX9) (T := TX9) (N := 5) hx hb htc inX9 hown hV.1 hR 0 rfl rfl 4 (by decide) (htc _ w_1_156) (fun _ h9 => h9) rfl dX9_takeDraft_6 ?_
      refine rk_fget_width hx hb htc hown hV.1 hR 2 rfl (htc _ w_1_135) dX9_takeDraft_9 ?_
      refine lv_icmp_ge (tgt := 53) hx hb dX9_takeDraft_12 (by decide) (fun hc1 => ?_) (fun hc1 => ?_)
      · have h := rk_if hc1 h
        refine lv_iload_n hx hb dX9_takeDraft_53 rfl (lv_at hl 1 rfl) ?_
        obtain ⟨hz2, h⟩ := rk_gp h
        exact hret (b4_l1, b4_c_this_buffer) _ _ _ _ h (rk_nz hz2) dX9_takeDraft_54 hP hD hS
      · have h := rk_nif hc1 h
        refine lv_aload_n hx hb dX9_takeDraft_15 rfl (lv_at hl 0 rfl) ?_
        refine va_get (D := D) (ci := 8) (v := .ref a_this_draft) (C := RX9) (T := TX9) (N := 5) hx hb htc inX9 hown hV.1 hR 0 rfl rfl 1 (by decide) (htc _ w_1_153) (fun _ h9 => h9) rfl dX9_takeDraft_16 ?_
        refine lv_iload_n hx hb dX9_takeDraft_19 rfl (lv_at hl 2 rfl) ?_
        obtain ⟨r_20, hc_20, h⟩ := rk_bd h
        refine rk_i (wr := [(a_this_buffer, .inl (cI, 60, .inl b4_c_this_buffer))]) (va_runS (As := [.ref a_this_draft, .int b4_l2]) (rest := []) hF (mtX9_at l D cI cJ cO PL _ a_this_draft 60 c_this_draft b4_l2 r_20 hc_20) (va_cwS 2 htc (rk_gVS w_2_61 w_1_51 w_1_1 w_1_52) rfl rfl rfl (by decide +kernel) ⟨(Nat.le_of_ble_eq_true rfl), (Nat.le_of_ble_eq_true rfl)⟩) (rk_preS hP hD hS hR hn hPL hnl hV [] [(false, 1)] rfl (by decide) rfl (by decide)) rfl rfl hl.1 rfl (lv_room (Nat.le_of_ble_eq_true rfl)) dX9_takeDraft_20 ⟨(Nat.le_of_ble_eq_true rfl), (Nat.le_of_ble_eq_true rfl)⟩) hP hD hS hA hR0 hn [] [0] rfl rfl (by decide) (by decide) (fun H locs hP hD hS hR => ?_)
        have hP : va_P D vwCl [(a_this_buffer, .inl (cI, 60, .inl b4_c_this_buffer))] H := hP
        have hD : va_D A [(a_this_buffer, .inl (cI, 60, .inl b4_c_this_buffer))] := hD
        refine lv_istore_n (lv' := [(3, .int r_20), (0, .ref a_this), (1, .int b4_l1), (2, .int b4_l2)]) hx hb dX9_takeDraft_23 rfl hl (by decide) rfl (fun ls hl => ?_)
        refine lv_aload_n hx hb dX9_takeDraft_24 rfl (lv_at hl 1 rfl) ?_
        refine va_get (D := D) (ci := 8) (v := .ref a_this_buffer) (C := RX9) (T := TX9) (N := 5) hx hb htc inX9 hown hV.1 hR 0 rfl rfl 0 (by decide) (htc _ w_1_152) (fun _ h9 => h9) rfl dX9_takeDraft_25 ?_
        refine lv_iload_n hx hb dX9_takeDraft_28 rfl (lv_at hl 3 rfl) ?_
        obtain ⟨r_29, hc_29, h⟩ := rk_bd h
        refine rk_i (wr := [(a_this_buffer, .inl (cI, 60, .inl b4_c_this_buffer))]) (va_runS (As := [.ref a_this_buffer, .int b4_l2]) (rest := []) hF (mtX9_at l D cI cJ cO PL _ a_this_buffer 60 b4_c_this_buffer b4_l2 r_29 hc_29) (va_cwS 2 htc (rk_gVS w_2_61 w_1_51 w_1_1 w_1_52) rfl rfl rfl (by decide +kernel) ⟨(Nat.le_of_ble_eq_true rfl), (Nat.le_of_ble_eq_true rfl)⟩) (rk_preS hP hD hS hR hn hPL hnl hV [] [(true, 0)] rfl (by decide) rfl (by decide)) rfl rfl hl.1 rfl (lv_room (Nat.le_of_ble_eq_true rfl)) dX9_takeDraft_29 ⟨(Nat.le_of_ble_eq_true rfl), (Nat.le_of_ble_eq_true rfl)⟩) hP hD hS hA hR0 hn [] [0] rfl rfl (by decide) (by decide) (fun H locs hP hD hS hR => ?_)
        have hP : va_P D vwCl [(a_this_buffer, .inl (cI, 60, .inl b4_c_this_buffer))] H := hP
        have hD : va_D A [(a_this_buffer, .inl (cI, 60, .inl b4_c_this_buffer))] := hD
        refine lv_iload_n hx hb dX9_takeDraft_32 rfl (lv_at hl 0 rfl) ?_
        have B47 : ∀ (b47_l1 : Int32) (b47_c_this_buffer : Nat → Int32), fX9_takeDraft_B47 b4_l2 (rk_it3 (fX9_takeDraft_L4 c_this_draft F_this_present) n4) b47_l1 b47_c_this_buffer = some r0 → ∀ (H : Heap) (locs : List Loc), va_P D vwCl [(a_this_buffer, .inl (cI, 60, .inl b47_c_this_buffer))] H → va_D A [(a_this_buffer, .inl (cI, 60, .inl b47_c_this_buffer))] → va_S A s.heap H locs → ∀ (ls : Array Slot), lv_has ls 4 [(0, .ref a_this), (1, .int b47_l1), (2, .int b4_l2)] → W p l e rmX9_takeDraft s m args below meth c H locs 0 0 Q (F0 m 47 ls []) := by
          intro b47_l1 b47_c_this_buffer h H locs hP hD hS ls hl
          unfold fX9_takeDraft_B47 at h
          have hR := rk_keep hR0 hn hS
          refine lv_iinc (v := (b4_l2 + 1)) (lv' := [(2, .int (b4_l2 + 1)), (0, .ref a_this), (1, .int b47_l1)]) hx hb dX9_takeDraft_47 hl (k := 2) rfl rfl (by decide) rfl (fun ls hl => ?_)
          refine lv_goto (tgt := 4) hx hb dX9_takeDraft_50 (by decide) ?_
          exact ih4 b47_l1 (b4_l2 + 1) b47_c_this_buffer h _ _ hP hD hS _ (lv_sub hl [1, 2, 0] rfl)
        refine lv_icmp_eq (tgt := 47) hx hb dX9_takeDraft_33 (by decide) (fun hc3 => ?_) (fun hc3 => ?_)
        · have h := rk_if hc3 h
          exact B47 b4_l1 b4_c_this_buffer h _ _ hP hD hS _ (lv_sub hl [1, 2, 3] rfl)
        · have h := rk_nif hc3 h
          refine lv_aload_n hx hb dX9_takeDraft_36 rfl (lv_at hl 1 rfl) ?_
          refine va_get (D := D) (ci := 8) (v := .ref a_this_buffer) (C := RX9) (T := TX9) (N := 5) hx hb htc inX9 hown hV.1 hR 0 rfl rfl 0 (by decide) (htc _ w_1_152) (fun _ h9 => h9) rfl dX9_takeDraft_37 ?_
          refine lv_iload_n hx hb dX9_takeDraft_40 rfl (lv_at hl 3 rfl) ?_
          refine lv_iload_n hx hb dX9_takeDraft_41 rfl (lv_at hl 0 rfl) ?_
          obtain ⟨r_42, hc_42, h⟩ := rk_bd h
          refine rk_v (wr := []) (va_runS (As := [.ref a_this_buffer, .int b4_l2, .int r_20]) (rest := []) hF (mtX9_set l D cI cJ cO PL _ a_this_buffer 60 b4_c_this_buffer b4_l2 r_20 r_42 hc_42) (va_cwS 3 htc (rk_gVS w_2_62 w_1_45 w_1_1 w_1_46) rfl rfl rfl (by decide +kernel) ⟨(Nat.le_of_ble_eq_true rfl), (Nat.le_of_ble_eq_true rfl)⟩) (rk_preS hP hD hS hR hn hPL hnl hV [0] [] rfl (by decide) rfl (by decide)) rfl rfl hl.1 rfl (lv_room (Nat.le_of_ble_eq_true rfl)) dX9_takeDraft_42 ⟨(Nat.le_of_ble_eq_true rfl), (Nat.le_of_ble_eq_true rfl)⟩) hP hD hS hA hR0 hn [0] [] rfl rfl (by decide) (by decide) (fun H locs hP hD hS hR => ?_)
          have hP : va_P D vwCl [(a_this_buffer, .inl (cI, 60, .inl r_42))] H := hP
          have hD : va_D A [(a_this_buffer, .inl (cI, 60, .inl r_42))] := hD
          refine lv_iconst (v := 1) hx hb dX9_takeDraft_45 (by decide) ?_
          refine lv_istore_n (lv' := [(1, .int (1 : Int32)), (3, .int r_20), (0, .ref a_this), (2, .int b4_l2)]) hx hb dX9_takeDraft_46 rfl hl (by decide) rfl (fun ls hl => ?_)
          exact B47 (1 : Int32) r_42 h _ _ hP hD hS _ (lv_sub hl [2, 0, 3] rfl)
  exact L4 FU (0 : Int32) (0 : Int32) c_this_buffer h _ _ hP hD hS _ (lv_sub hl [2, 1, 0] rfl)
set_option maxHeartbeats 4000000 in
set_option maxRecDepth 100000 in
theorem mtX9_choose (l : Launch) (D : va_G) (cI cJ cO : ClassId) (PL : va_W) (sz : Nat) (a_this : Nat) (a_this_buffer : Nat) (a_this_draft : Nat) (a_this_desk : Nat) (a_this_archive : Nat) (a_this_present : Nat) (a_p1 : Nat) (F_p1 : Fm) (c_this_buffer : Nat → Int32) (c_this_draft : Nat → Int32) (a_this_desk_binomials : Nat) (a_this_desk_partitionCounts : Nat) (a_this_desk_treeCounts : Nat) (a_this_desk_sizes : Nat) (a_this_desk_starts : Nat) (a_this_desk_ranks : Nat) (a_this_desk_letters : Nat) (c_this_desk_letters : Nat → Int32) (c_this_desk_ranks : Nat → Int64) (c_this_desk_sizes : Nat → Int32) (c_this_desk_binomials : Nat → Int64) (c_this_desk_partitionCounts : Nat → Int32) (c_this_desk_treeCounts : Nat → Int64) (r0 : Int32 × (Nat → Int32) × (Nat → Int32) × (Nat → Int64) × (Nat → Int32) × (Nat → Int32)) (h : fX9_choose F_p1 c_this_buffer c_this_draft c_this_desk_letters c_this_desk_ranks c_this_desk_sizes c_this_desk_binomials c_this_desk_partitionCounts c_this_desk_treeCounts = some r0) : Met l yX9_choose (rk_w yX9_choose cX9_choose 2 (some .int)) rmX9_choose (va_Pc [.ref a_this, .ref a_p1] (rk_B D (rk_TY cI cJ cO) [(a_this, .inr (8, [.ref a_this_buffer, .ref a_this_draft, .ref a_this_desk, .ref a_this_archive, .ref a_this_present])), (a_this_buffer, .inl (cI, 60, .inl c_this_buffer)), (a_this_desk_letters, .inl (cI, 4, .inl c_this_desk_letters)), (a_this_desk_ranks, .inl (cJ, 60, .inr (.inl c_this_desk_ranks))), (a_this_desk_sizes, .inl (cI, 60, .inl c_this_desk_sizes)), (a_this_draft, .inl (cI, 60, .inl c_this_draft))] [(a_this_desk, .inr (2, [.ref a_this_desk_binomials, .ref a_this_desk_partitionCounts, .ref a_this_desk_treeCounts, .ref a_this_desk_sizes, .ref a_this_desk_starts, .ref a_this_desk_ranks, .ref a_this_desk_letters])), (a_this_desk_binomials, .inl (cJ, 1891, .inr (.inl c_this_desk_binomials))), (a_this_desk_partitionCounts, .inl (cI, 1891, .inl c_this_desk_partitionCounts)), (a_this_desk_treeCounts, .inl (cJ, 31, .inr (.inl c_this_desk_treeCounts))), (a_p1, rk_fam F_p1)] PL sz)) (rk_Qi r0.1 D [(a_this, .inr (8, [.ref a_this_buffer, .ref a_this_draft, .ref a_this_desk, .ref a_this_archive, .ref a_p1])), (a_this_buffer, .inl (cI, 60, .inl r0.2.1)), (a_this_desk_letters, .inl (cI, 4, .inl r0.2.2.1)), (a_this_desk_ranks, .inl (cJ, 60, .inr (.inl r0.2.2.2.1))), (a_this_desk_sizes, .inl (cI, 60, .inl r0.2.2.2.2.1)), (a_this_draft, .inl (cI, 60, .inl r0.2.2.2.2.2))] [(a_this, .inr (8, [.ref a_this_buffer, .ref a_this_draft, .ref a_this_desk, .ref a_this_archive, .ref a_this_present])), (a_this_buffer, .inl (cI, 60, .inl c_this_buffer)), (a_this_desk_letters, .inl (cI, 4, .inl c_this_desk_letters)), (a_this_desk_ranks, .inl (cJ, 60, .inr (.inl c_this_desk_ranks))), (a_this_desk_sizes, .inl (cI, 60, .inl c_this_desk_sizes)), (a_this_draft, .inl (cI, 60, .inl c_this_draft))] sz) 0 0 (va_A [(a_this, .inr (8, [.ref a_this_buffer, .ref a_this_draft, .ref a_this_desk, .ref a_this_archive, .ref a_this_present])), (a_this_buffer, .inl (cI, 60, .inl c_this_buffer)), (a_this_desk_letters, .inl (cI, 4, .inl c_this_desk_letters)), (a_this_desk_ranks, .inl (cJ, 60, .inr (.inl c_this_desk_ranks))), (a_this_desk_sizes, .inl (cI, 60, .inl c_this_desk_sizes)), (a_this_draft, .inl (cI, 60, .inl c_this_draft))] sz) := by
  refine rk_meti h (fun x : Int32 × (Nat → Int32) × (Nat → Int32) × (Nat → Int64) × (Nat → Int32) × (Nat → Int32) => x.1) (fun x => [(a_this, .inr (8, [.ref a_this_buffer, .ref a_this_draft, .ref a_this_desk, .ref a_this_archive, .ref a_p1])), (a_this_buffer, .inl (cI, 60, .inl x.2.1)), (a_this_desk_letters, .inl (cI, 4, .inl x.2.2.1)), (a_this_desk_ranks, .inl (cJ, 60, .inr (.inl x.2.2.2.1))), (a_this_desk_sizes, .inl (cI, 60, .inl x.2.2.2.2.1)), (a_this_draft, .inl (cI, 60, .inl x.2.2.2.2.2))]) (by decide) (Nat.le_of_ble_eq_true rfl) ?_
  intro p e s m args below meth c A ls Q hret hname hF hP hD hA hV hR0 hn hPL hnl hl h hS
  have hx := hF.1
  have hb := hF.2.1
  have hml := hF.2.2.1
  have hown : s.vm.findClass RX9 = some m.cls := hF.2.2.2.1
  have htc := hF.2.2.2.2
  have hP : va_P D vwCl [(a_this, .inr (8, [.ref a_this_buffer, .ref a_this_draft, .ref a_this_desk, .ref a_this_archive, .ref a_this_present])), (a_this_buffer, .inl (cI, 60, .inl c_this_buffer)), (a_this_desk_letters, .inl (cI, 4, .inl c_this_desk_letters)), (a_this_desk_ranks, .inl (cJ, 60, .inr (.inl c_this_desk_ranks))), (a_this_desk_sizes, .inl (cI, 60, .inl c_this_desk_sizes)), (a_this_draft, .inl (cI, 60, .inl c_this_draft))] s.heap := hP
  have hD : va_D A [(a_this, .inr (8, [.ref a_this_buffer, .ref a_this_draft, .ref a_this_desk, .ref a_this_archive, .ref a_this_present])), (a_this_buffer, .inl (cI, 60, .inl c_this_buffer)), (a_this_desk_letters, .inl (cI, 4, .inl c_this_desk_letters)), (a_this_desk_ranks, .inl (cJ, 60, .inr (.inl c_this_desk_ranks))), (a_this_desk_sizes, .inl (cI, 60, .inl c_this_desk_sizes)), (a_this_draft, .inl (cI, 60, .inl c_this_draft))] := hD
  have hR0 : va_P D vwCl [(a_this_desk, .inr (2, [.ref a_this_desk_binomials, .ref a_this_desk_partitionCounts, .ref a_this_desk_treeCounts, .ref a_this_desk_sizes, .ref a_this_desk_starts, .ref a_this_desk_ranks, .ref a_this_desk_letters])), (a_this_desk_binomials, .inl (cJ, 1891, .inr (.inl c_this_desk_binomials))), (a_this_desk_partitionCounts, .inl (cI, 1891, .inl c_this_desk_partitionCounts)), (a_this_desk_treeCounts, .inl (cJ, 31, .inr (.inl c_this_desk_treeCounts))), (a_p1, rk_fam F_p1)] s.heap := hR0
  have hR := hR0
  have hl : lv_has ls 2 [(0, .ref a_this), (1, .ref a_p1)] := hl
  unfold fX9_choose at h
  refine lv_aload_n hx hb dX9_choose_0 rfl (lv_at hl 0 rfl) ?_
  refine lv_aload_n hx hb dX9_choose_1 rfl (lv_at hl 1 rfl) ?_
  refine va_put (D := D) (ci := 8) (v := .ref a_p1) (ty := (.object "EnumerativeCoder$Family")) (C := RX9) (T := TX9) (N := 5) hx hb htc inX9 tyX9 tyX9_ok nmX9 hown hV.1 hP hD hS 0 rfl rfl 4 (by decide) (htc _ w_1_156) (fun _ h9 => h9) rfl (by decide +kernel) rfl rfl (Nat.le_of_ble_eq_true rfl) dX9_choose_2 (fun H locs hP hD hS => ?_)
  have hP : va_P D vwCl [(a_this, .inr (8, [.ref a_this_buffer, .ref a_this_draft, .ref a_this_desk, .ref a_this_archive, .ref a_p1])), (a_this_buffer, .inl (cI, 60, .inl c_this_buffer)), (a_this_desk_letters, .inl (cI, 4, .inl c_this_desk_letters)), (a_this_desk_ranks, .inl (cJ, 60, .inr (.inl c_this_desk_ranks))), (a_this_desk_sizes, .inl (cI, 60, .inl c_this_desk_sizes)), (a_this_draft, .inl (cI, 60, .inl c_this_draft))] H := hP
  have hD : va_D A [(a_this, .inr (8, [.ref a_this_buffer, .ref a_this_draft, .ref a_this_desk, .ref a_this_archive, .ref a_p1])), (a_this_buffer, .inl (cI, 60, .inl c_this_buffer)), (a_this_desk_letters, .inl (cI, 4, .inl c_this_desk_letters)), (a_this_desk_ranks, .inl (cJ, 60, .inr (.inl c_this_desk_ranks))), (a_this_desk_sizes, .inl (cI, 60, .inl c_this_desk_sizes)), (a_this_draft, .inl (cI, 60, .inl c_this_draft))] := hD
  have hR := rk_keep hR0 hn hS
  refine lv_aload_n hx hb dX9_choose_5 rfl (lv_at hl 1 rfl) ?_
  refine lv_lconst (v := 0) hx hb dX9_choose_6 (by decide) ?_
  refine lv_aload_n hx hb dX9_choose_7 rfl (lv_at hl 0 rfl) ?_
  refine va_get (D := D) (ci := 8) (v := .ref a_this_draft) (C := RX9) (T := TX9) (N := 5) hx hb htc inX9 hown hV.1 hP 0 rfl rfl 1 (by decide) (htc _ w_1_153) (fun _ h9 => h9) rfl dX9_choose_8 ?_
  refine lv_aload_n hx hb dX9_choose_11 rfl (lv_at hl 0 rfl) ?_
  refine va_get (D := D) (ci := 8) (v := .ref a_this_desk) (C := RX9) (T := TX9) (N := 5) hx hb htc inX9 hown hV.1 hP 0 rfl rfl 2 (by decide) (htc _ w_1_154) (fun _ h9 => h9) rfl dX9_choose_12 ?_
  obtain ⟨r_15, hc_15, h⟩ := rk_bd h
  refine rk_v (wr := [(a_this, .inr (8, [.ref a_this_buffer, .ref a_this_draft, .ref a_this_desk, .ref a_this_archive, .ref a_p1])), (a_this_buffer, .inl (cI, 60, .inl c_this_buffer))]) (vr_lay (As := [.long (0 : Int64), .ref a_this_draft, .ref a_this_desk]) (rest := []) hF htc hV w_1_180 rfl PL a_this_draft c_this_draft a_p1 F_p1 a_this_desk a_this_desk_binomials a_this_desk_partitionCounts a_this_desk_treeCounts a_this_desk_sizes a_this_desk_starts a_this_desk_ranks a_this_desk_letters c_this_desk_letters c_this_desk_ranks c_this_desk_sizes c_this_desk_binomials c_this_desk_partitionCounts c_this_desk_treeCounts (0 : Int64) r_15 hc_15 (hR 4 _ rfl) (rk_preS hP hD hS hR hn hPL hnl hV [5, 2, 3, 4] [(false, 4), (false, 0), (false, 1), (false, 2), (false, 3)] rfl (by decide) rfl (by decide)) rfl rfl hl.1 rfl (lv_room (Nat.le_of_ble_eq_true rfl)) dX9_choose_15 ⟨(Nat.le_of_ble_eq_true rfl), (Nat.le_of_ble_eq_true rfl)⟩ (Nat.le_of_ble_eq_true rfl) (Nat.le_of_ble_eq_true rfl) rfl) hP hD hS hA hR0 hn [5, 2, 3, 4] [0, 1] rfl rfl (by decide) (by decide) (fun H locs hP hD hS hR => ?_)
  have hP : va_P D vwCl [(a_this, .inr (8, [.ref a_this_buffer, .ref a_this_draft, .ref a_this_desk, .ref a_this_archive, .ref a_p1])), (a_this_buffer, .inl (cI, 60, .inl c_this_buffer)), (a_this_draft, .inl (cI, 60, .inl r_15.1)), (a_this_desk_letters, .inl (cI, 4, .inl r_15.2.1)), (a_this_desk_ranks, .inl (cJ, 60, .inr (.inl r_15.2.2.1))), (a_this_desk_sizes, .inl (cI, 60, .inl r_15.2.2.2))] H := hP
  have hD : va_D A [(a_this, .inr (8, [.ref a_this_buffer, .ref a_this_draft, .ref a_this_desk, .ref a_this_archive, .ref a_p1])), (a_this_buffer, .inl (cI, 60, .inl c_this_buffer)), (a_this_draft, .inl (cI, 60, .inl r_15.1)), (a_this_desk_letters, .inl (cI, 4, .inl r_15.2.1)), (a_this_desk_ranks, .inl (cJ, 60, .inr (.inl r_15.2.2.1))), (a_this_desk_sizes, .inl (cI, 60, .inl r_15.2.2.2))] := hD
  refine lv_aload_n hx hb dX9_choose_18 rfl (lv_at hl 0 rfl) ?_
  obtain ⟨r_19, hc_19, h⟩ := rk_bd h
  refine rk_i (wr := [(a_this, .inr (8, [.ref a_this_buffer, .ref a_this_draft, .ref a_this_desk, .ref a_this_archive, .ref a_p1])), (a_this_draft, .inl (cI, 60, .inl r_15.1)), (a_this_desk_letters, .inl (cI, 4, .inl r_15.2.1)), (a_this_desk_ranks, .inl (cJ, 60, .inr (.inl r_15.2.2.1))), (a_this_desk_sizes, .inl (cI, 60, .inl r_15.2.2.2))]) (va_runV (C := RX9) (As := []) (rest := []) hF (mtX9_takeDraft l D cI cJ cO PL _ a_this a_this_buffer a_this_draft a_this_desk a_this_archive a_p1 c_this_buffer r_15.1 F_p1 r_19 hc_19) (cwV 0 htc (rk_gV w_2_57 w_2_59 ws_12 w_1_1 w_2_60) rfl rfl rfl (by decide +kernel) ⟨(Nat.le_of_ble_eq_true rfl), (Nat.le_of_ble_eq_true rfl)⟩) (rk_preV (va_recv hV.1 hP (ci := 8) (q0 := 0) rfl rfl) (rk_preS hP hD hS hR hn hPL hnl hV [1] [(true, 0), (true, 2), (false, 4)] rfl (by decide) rfl (by decide))) rfl rfl hl.1 rfl (lv_room (Nat.le_of_ble_eq_true rfl)) dX9_choose_19 ⟨(Nat.le_of_ble_eq_true rfl), (Nat.le_of_ble_eq_true rfl)⟩) hP hD hS hA hR0 hn [1] [0, 2, 3, 4, 5] rfl rfl (by decide) (by decide) (fun H locs hP hD hS hR => ?_)
  have hP : va_P D vwCl [(a_this, .inr (8, [.ref a_this_buffer, .ref a_this_draft, .ref a_this_desk, .ref a_this_archive, .ref a_p1])), (a_this_draft, .inl (cI, 60, .inl r_15.1)), (a_this_desk_letters, .inl (cI, 4, .inl r_15.2.1)), (a_this_desk_ranks, .inl (cJ, 60, .inr (.inl r_15.2.2.1))), (a_this_desk_sizes, .inl (cI, 60, .inl r_15.2.2.2)), (a_this_buffer, .inl (cI, 60, .inl r_19.2))] H := hP
  have hD : va_D A [(a_this, .inr (8, [.ref a_this_buffer, .ref a_this_draft, .ref a_this_desk, .ref a_this_archive, .ref a_p1])), (a_this_draft, .inl (cI, 60, .inl r_15.1)), (a_this_desk_letters, .inl (cI, 4, .inl r_15.2.1)), (a_this_desk_ranks, .inl (cJ, 60, .inr (.inl r_15.2.2.1))), (a_this_desk_sizes, .inl (cI, 60, .inl r_15.2.2.2)), (a_this_buffer, .inl (cI, 60, .inl r_19.2))] := hD
  refine lv_pop hx hb dX9_choose_22 rfl ?_
  refine lv_aload_n hx hb dX9_choose_23 rfl (lv_at hl 1 rfl) ?_
  refine rk_fget_width hx hb htc hown hV.1 hR 4 rfl (htc _ w_1_135) dX9_choose_24 ?_
  exact hret (F_p1.2.2.1, r_19.2, r_15.2.1, r_15.2.2.1, r_15.2.2.2, r_15.1) _ _ _ _ h dX9_choose_27 (hP.sub [0, 5, 2, 3, 4, 1] rfl) (hD.sub [0, 5, 2, 3, 4, 1] (by decide) rfl) hS
set_option maxHeartbeats 4000000 in
set_option maxRecDepth 100000 in
theorem mtX9_selectSubsets (l : Launch) (D : va_G) (cI cJ cO : ClassId) (PL : va_W) (sz : Nat) (a_this : Nat) (a_this_buffer : Nat) (a_this_draft : Nat) (a_this_desk : Nat) (a_this_archive : Nat) (a_this_present : Nat) (c_this_buffer : Nat → Int32) (c_this_draft : Nat → Int32) (a_this_desk_binomials : Nat) (a_this_desk_partitionCounts : Nat) (a_this_desk_treeCounts : Nat) (a_this_desk_sizes : Nat) (a_this_desk_starts : Nat) (a_this_desk_ranks : Nat) (a_this_desk_letters : Nat) (c_this_desk_letters : Nat → Int32) (c_this_desk_ranks : Nat → Int64) (c_this_desk_sizes : Nat → Int32) (c_this_desk_binomials : Nat → Int64) (c_this_desk_partitionCounts : Nat → Int32) (c_this_desk_treeCounts : Nat → Int64) (v_p1 : Int32) (v_p2 : Int32) (v_p3 : Int32) (r0 : Int32 × Option Fm × (Nat → Int32) × (Nat → Int32) × (Nat → Int64) × (Nat → Int32) × (Nat → Int32)) (h : fX9_selectSubsets c_this_buffer c_this_draft c_this_desk_letters c_this_desk_ranks c_this_desk_sizes c_this_desk_binomials c_this_desk_partitionCounts c_this_desk_treeCounts v_p1 v_p2 v_p3 = some r0) : Met l yX9_selectSubsets (rk_w yX9_selectSubsets cX9_selectSubsets 4 (some .int)) rmX9_selectSubsets (va_Pc [.ref a_this, .int v_p1, .int v_p2, .int v_p3] (rk_B D (rk_TY cI cJ cO) [(a_this, .inr (8, [.ref a_this_buffer, .ref a_this_draft, .ref a_this_desk, .ref a_this_archive, .ref a_this_present])), (a_this_buffer, .inl (cI, 60, .inl c_this_buffer)), (a_this_desk_letters, .inl (cI, 4, .inl c_this_desk_letters)), (a_this_desk_ranks, .inl (cJ, 60, .inr (.inl c_this_desk_ranks))), (a_this_desk_sizes, .inl (cI, 60, .inl c_this_desk_sizes)), (a_this_draft, .inl (cI, 60, .inl c_this_draft))] [(a_this_desk, .inr (2, [.ref a_this_desk_binomials, .ref a_this_desk_partitionCounts, .ref a_this_desk_treeCounts, .ref a_this_desk_sizes, .ref a_this_desk_starts, .ref a_this_desk_ranks, .ref a_this_desk_letters])), (a_this_desk_binomials, .inl (cJ, 1891, .inr (.inl c_this_desk_binomials))), (a_this_desk_partitionCounts, .inl (cI, 1891, .inl c_this_desk_partitionCounts)), (a_this_desk_treeCounts, .inl (cJ, 31, .inr (.inl c_this_desk_treeCounts)))] PL sz)) (rk_Qie r0.1 D (fun q => ([(a_this, .inr (8, [.ref a_this_buffer, .ref a_this_draft, .ref a_this_desk, .ref a_this_archive, .ref (rk_pn r0.2.1 a_this_present (q 0))])), (a_this_buffer, .inl (cI, 60, .inl r0.2.2.1)), (a_this_desk_letters, .inl (cI, 4, .inl r0.2.2.2.1)), (a_this_desk_ranks, .inl (cJ, 60, .inr (.inl r0.2.2.2.2.1))), (a_this_desk_sizes, .inl (cI, 60, .inl r0.2.2.2.2.2.1)), (a_this_draft, .inl (cI, 60, .inl r0.2.2.2.2.2.2))] ++ rk_nc r0.2.1 (q 0))) [(a_this, .inr (8, [.ref a_this_buffer, .ref a_this_draft, .ref a_this_desk, .ref a_this_archive, .ref a_this_present])), (a_this_buffer, .inl (cI, 60, .inl c_this_buffer)), (a_this_desk_letters, .inl (cI, 4, .inl c_this_desk_letters)), (a_this_desk_ranks, .inl (cJ, 60, .inr (.inl c_this_desk_ranks))), (a_this_desk_sizes, .inl (cI, 60, .inl c_this_desk_sizes)), (a_this_draft, .inl (cI, 60, .inl c_this_draft))] sz) 1 5 (va_A [(a_this, .inr (8, [.ref a_this_buffer, .ref a_this_draft, .ref a_this_desk, .ref a_this_archive, .ref a_this_present])), (a_this_buffer, .inl (cI, 60, .inl c_this_buffer)), (a_this_desk_letters, .inl (cI, 4, .inl c_this_desk_letters)), (a_this_desk_ranks, .inl (cJ, 60, .inr (.inl c_this_desk_ranks))), (a_this_desk_sizes, .inl (cI, 60, .inl c_this_desk_sizes)), (a_this_draft, .inl (cI, 60, .inl c_this_draft))] sz) := by
  refine rk_metie (y := yX9_selectSubsets) (cc := cX9_selectSubsets) (maxL := 4) (av := [.ref a_this, .int v_p1, .int v_p2, .int v_p3]) (sz := sz) h (fun x : Int32 × Option Fm × (Nat → Int32) × (Nat → Int32) × (Nat → Int64) × (Nat → Int32) × (Nat → Int32) => x.1) (fun x q => ([(a_this, .inr (8, [.ref a_this_buffer, .ref a_this_draft, .ref a_this_desk, .ref a_this_archive, .ref (rk_pn x.2.1 a_this_present (q 0))])), (a_this_buffer, .inl (cI, 60, .inl x.2.2.1)), (a_this_desk_letters, .inl (cI, 4, .inl x.2.2.2.1)), (a_this_desk_ranks, .inl (cJ, 60, .inr (.inl x.2.2.2.2.1))), (a_this_desk_sizes, .inl (cI, 60, .inl x.2.2.2.2.2.1)), (a_this_draft, .inl (cI, 60, .inl x.2.2.2.2.2.2))] ++ rk_nc x.2.1 (q 0))) (by decide) (Nat.le_of_ble_eq_true rfl) ?_
  intro p e s m args below meth c A ls Q hret hname hF hP hD hA hV hR0 hn hPL hnl hl h hS
  have hx := hF.1
  have hb := hF.2.1
  have hml := hF.2.2.1
  have hown : s.vm.findClass RX9 = some m.cls := hF.2.2.2.1
  have htc := hF.2.2.2.2
  have hP : va_P D vwCl [(a_this, .inr (8, [.ref a_this_buffer, .ref a_this_draft, .ref a_this_desk, .ref a_this_archive, .ref a_this_present])), (a_this_buffer, .inl (cI, 60, .inl c_this_buffer)), (a_this_desk_letters, .inl (cI, 4, .inl c_this_desk_letters)), (a_this_desk_ranks, .inl (cJ, 60, .inr (.inl c_this_desk_ranks))), (a_this_desk_sizes, .inl (cI, 60, .inl c_this_desk_sizes)), (a_this_draft, .inl (cI, 60, .inl c_this_draft))] s.heap := hP
  have hD : va_D A [(a_this, .inr (8, [.ref a_this_buffer, .ref a_this_draft, .ref a_this_desk, .ref a_this_archive, .ref a_this_present])), (a_this_buffer, .inl (cI, 60, .inl c_this_buffer)), (a_this_desk_letters, .inl (cI, 4, .inl c_this_desk_letters)), (a_this_desk_ranks, .inl (cJ, 60, .inr (.inl c_this_desk_ranks))), (a_this_desk_sizes, .inl (cI, 60, .inl c_this_desk_sizes)), (a_this_draft, .inl (cI, 60, .inl c_this_draft))] := hD
  have hR0 : va_P D vwCl [(a_this_desk, .inr (2, [.ref a_this_desk_binomials, .ref a_this_desk_partitionCounts, .ref a_this_desk_treeCounts, .ref a_this_desk_sizes, .ref a_this_desk_starts, .ref a_this_desk_ranks, .ref a_this_desk_letters])), (a_this_desk_binomials, .inl (cJ, 1891, .inr (.inl c_this_desk_binomials))), (a_this_desk_partitionCounts, .inl (cI, 1891, .inl c_this_desk_partitionCounts)), (a_this_desk_treeCounts, .inl (cJ, 31, .inr (.inl c_this_desk_treeCounts)))] s.heap := hR0
  have hR := hR0
  have hl : lv_has ls 4 [(0, .ref a_this), (1, .int v_p1), (2, .int v_p2), (3, .int v_p3)] := hl
  unfold fX9_selectSubsets at h
  refine lv_iload_n hx hb dX9_selectSubsets_0 rfl (lv_at hl 1 rfl) ?_
  refine lv_if_lt (tgt := 28) hx hb dX9_selectSubsets_1 (by decide) (fun hc1 => ?_) (fun hc1 => ?_)
  · have h := rk_if hc1 h
    refine lv_iconst (v := (-1)) hx hb dX9_selectSubsets_28 (by decide) ?_
    refine W.widen (k := 1) (n := 5) (Nat.le_of_ble_eq_true rfl) (Nat.le_of_ble_eq_true rfl) ?_
    exact hret ((-1 : Int32), (none : Option Fm), c_this_buffer, c_this_desk_letters, c_this_desk_ranks, c_this_desk_sizes, c_this_draft) (rk_qs []) _ _ _ _ h dX9_selectSubsets_29 hP hD hS
  · have h := rk_nif hc1 h
    refine lv_iload_n hx hb dX9_selectSubsets_4 rfl (lv_at hl 1 rfl) ?_
    refine lv_bipush (v := 60) hx hb dX9_selectSubsets_5 (by decide) ?_
    refine lv_icmp_gt (tgt := 28) hx hb dX9_selectSubsets_7 (by decide) (fun hc2 => ?_) (fun hc2 => ?_)
    · have h := rk_if hc2 h
      refine lv_iconst (v := (-1)) hx hb dX9_selectSubsets_28 (by decide) ?_
      refine W.widen (k := 1) (n := 5) (Nat.le_of_ble_eq_true rfl) (Nat.le_of_ble_eq_true rfl) ?_
      exact hret ((-1 : Int32), (none : Option Fm), c_this_buffer, c_this_desk_letters, c_this_desk_ranks, c_this_desk_sizes, c_this_draft) (rk_qs []) _ _ _ _ h dX9_selectSubsets_29 hP hD hS
    · have h := rk_nif hc2 h
      refine lv_iload_n hx hb dX9_selectSubsets_10 rfl (lv_at hl 2 rfl) ?_
      refine lv_if_lt (tgt := 28) hx hb dX9_selectSubsets_11 (by decide) (fun hc3 => ?_) (fun hc3 => ?_)
      · have h := rk_if hc3 h
        refine lv_iconst (v := (-1)) hx hb dX9_selectSubsets_28 (by decide) ?_
        refine W.widen (k := 1) (n := 5) (Nat.le_of_ble_eq_true rfl) (Nat.le_of_ble_eq_true rfl) ?_
        exact hret ((-1 : Int32), (none : Option Fm), c_this_buffer, c_this_desk_letters, c_this_desk_ranks, c_this_desk_sizes, c_this_draft) (rk_qs []) _ _ _ _ h dX9_selectSubsets_29 hP hD hS
      · have h := rk_nif hc3 h
        refine lv_iload_n hx hb dX9_selectSubsets_14 rfl (lv_at hl 2 rfl) ?_
        refine lv_iload_n hx hb dX9_selectSubsets_15 rfl (lv_at hl 1 rfl) ?_
        refine lv_icmp_gt (tgt := 28) hx hb dX9_selectSubsets_16 (by decide) (fun hc4 => ?_) (fun hc4 => ?_)
        · have h := rk_if hc4 h
          refine lv_iconst (v := (-1)) hx hb dX9_selectSubsets_28 (by decide) ?_
          refine W.widen (k := 1) (n := 5) (Nat.le_of_ble_eq_true rfl) (Nat.le_of_ble_eq_true rfl) ?_
          exact hret ((-1 : Int32), (none : Option Fm), c_this_buffer, c_this_desk_letters, c_this_desk_ranks, c_this_desk_sizes, c_this_draft) (rk_qs []) _ _ _ _ h dX9_selectSubsets_29 hP hD hS
        · have h := rk_nif hc4 h
          refine lv_iload_n hx hb dX9_selectSubsets_19 rfl (lv_at hl 3 rfl) ?_
          refine lv_if_lt (tgt := 28) hx hb dX9_selectSubsets_20 (by decide) (fun hc5 => ?_) (fun hc5 => ?_)
          · have h := rk_if hc5 h
            refine lv_iconst (v := (-1)) hx hb dX9_selectSubsets_28 (by decide) ?_
            refine W.widen (k := 1) (n := 5) (Nat.le_of_ble_eq_true rfl) (Nat.le_of_ble_eq_true rfl) ?_
            exact hret ((-1 : Int32), (none : Option Fm), c_this_buffer, c_this_desk_letters, c_this_desk_ranks, c_this_desk_sizes, c_this_draft) (rk_qs []) _ _ _ _ h dX9_selectSubsets_29 hP hD hS
          · have h := rk_nif hc5 h
            refine lv_iload_n hx hb dX9_selectSubsets_23 rfl (lv_at hl 3 rfl) ?_
            refine lv_iconst (v := 2) hx hb dX9_selectSubsets_24 (by decide) ?_
            refine lv_icmp_le (tgt := 30) hx hb dX9_selectSubsets_25 (by decide) (fun hc6 => ?_) (fun hc6 => ?_)
            · have h := rk_if hc6 h
              refine lv_aload_n hx hb dX9_selectSubsets_30 rfl (lv_at hl 0 rfl) ?_
              refine va_new (ci := 5) (fs := [.int 0, .int 0, .long 0, .int 0, .int 0]) (C := RX6) (T := TX6) (N := 5) hx hb htc inX6 tyX6 tyX6_ok hown (htc _ w_1_108) (htc _ w_1_109) (htc _ w_1_6) hV.1 hP hD hS hA rfl (fun j hj => by rcases (show j = 0 ∨ j = 1 ∨ j = 2 ∨ j = 3 ∨ j = 4 by omega) with rfl | rfl | rfl | rfl | rfl <;> rfl) (Nat.le_of_ble_eq_true rfl) (Nat.le_of_ble_eq_true rfl) dX9_selectSubsets_31 (fun q_31 H hP hD hS => ?_)
              have hP : va_P D vwCl [(a_this, .inr (8, [.ref a_this_buffer, .ref a_this_draft, .ref a_this_desk, .ref a_this_archive, .ref a_this_present])), (a_this_buffer, .inl (cI, 60, .inl c_this_buffer)), (a_this_desk_letters, .inl (cI, 4, .inl c_this_desk_letters)), (a_this_desk_ranks, .inl (cJ, 60, .inr (.inl c_this_desk_ranks))), (a_this_desk_sizes, .inl (cI, 60, .inl c_this_desk_sizes)), (a_this_draft, .inl (cI, 60, .inl c_this_draft)), (q_31, .inr (5, [.int 0, .int 0, .long 0, .int 0, .int 0]))] H := hP
              have hD : va_D A [(a_this, .inr (8, [.ref a_this_buffer, .ref a_this_draft, .ref a_this_desk, .ref a_this_archive, .ref a_this_present])), (a_this_buffer, .inl (cI, 60, .inl c_this_buffer)), (a_this_desk_letters, .inl (cI, 4, .inl c_this_desk_letters)), (a_this_desk_ranks, .inl (cJ, 60, .inr (.inl c_this_desk_ranks))), (a_this_desk_sizes, .inl (cI, 60, .inl c_this_desk_sizes)), (a_this_draft, .inl (cI, 60, .inl c_this_draft)), (q_31, .inr (5, [.int 0, .int 0, .long 0, .int 0, .int 0]))] := hD
              have hR := rk_keep hR0 hn hS
              refine lv_dup hx hb dX9_selectSubsets_34 rfl ?_
              refine lv_iload_n hx hb dX9_selectSubsets_35 rfl (lv_at hl 1 rfl) ?_
              refine lv_iload_n hx hb dX9_selectSubsets_36 rfl (lv_at hl 2 rfl) ?_
              refine lv_iload_n hx hb dX9_selectSubsets_37 rfl (lv_at hl 3 rfl) ?_
              refine lv_aload_n hx hb dX9_selectSubsets_38 rfl (lv_at hl 0 rfl) ?_
              refine va_get (D := D) (ci := 8) (v := .ref a_this_desk) (C := RX9) (T := TX9) (N := 5) hx hb htc inX9 hown hV.1 hP 0 rfl rfl 2 (by decide) (htc _ w_1_154) (fun _ h9 => h9) rfl dX9_selectSubsets_39 ?_
              refine lv_iload_n hx hb dX9_selectSubsets_42 rfl (lv_at hl 1 rfl) ?_
              refine lv_iload_n hx hb dX9_selectSubsets_43 rfl (lv_at hl 2 rfl) ?_
              obtain ⟨r_44, hc_44, h⟩ := rk_bd h
              refine rk_l (wr := [(a_this, .inr (8, [.ref a_this_buffer, .ref a_this_draft, .ref a_this_desk, .ref a_this_archive, .ref a_this_present])), (a_this_buffer, .inl (cI, 60, .inl c_this_buffer)), (a_this_desk_letters, .inl (cI, 4, .inl c_this_desk_letters)), (a_this_desk_ranks, .inl (cJ, 60, .inr (.inl c_this_desk_ranks))), (a_this_desk_sizes, .inl (cI, 60, .inl c_this_desk_sizes)), (a_this_draft, .inl (cI, 60, .inl c_this_draft)), (q_31, .inr (5, [.int 0, .int 0, .long 0, .int 0, .int 0]))]) (va_runVN (C := RX2) (As := [.int v_p1, .int v_p2]) (rest := [.int v_p3, .int v_p2, .int v_p1, .ref q_31, .ref q_31, .ref a_this]) hF (mtX2_binomial l D cI cJ cO PL _ a_this_desk a_this_desk_binomials a_this_desk_partitionCounts a_this_desk_treeCounts a_this_desk_sizes a_this_desk_starts a_this_desk_ranks a_this_desk_letters c_this_desk_binomials v_p1 v_p2 r_44 hc_44) ⟨va_cnB 2 htc (rk_gw w_1_175) rfl rfl rfl (hV.2.1 _ nw_1_172) (htc _ w_1_2) (by decide +kernel) ⟨(Nat.le_of_ble_eq_true rfl), (Nat.le_of_ble_eq_true rfl)⟩, htc _ w_1_174, htc _ ws_0⟩ (rk_preV (va_recv hV.1 hR (ci := 2) (q0 := 0) rfl rfl) (rk_preS hP hD hS hR hn hPL hnl hV [] [(false, 0), (false, 1)] rfl (by decide) rfl (by decide))) rfl rfl hl.1 rfl (lv_room (Nat.le_of_ble_eq_true rfl)) dX9_selectSubsets_44 ⟨(Nat.le_of_ble_eq_true rfl), (Nat.le_of_ble_eq_true rfl)⟩) hP hD hS hA hR0 hn [] [0, 1, 2, 3, 4, 5, 6] rfl rfl (by decide) (by decide) (fun H locs hP hD hS hR => ?_)
              have hP : va_P D vwCl [(a_this, .inr (8, [.ref a_this_buffer, .ref a_this_draft, .ref a_this_desk, .ref a_this_archive, .ref a_this_present])), (a_this_buffer, .inl (cI, 60, .inl c_this_buffer)), (a_this_desk_letters, .inl (cI, 4, .inl c_this_desk_letters)), (a_this_desk_ranks, .inl (cJ, 60, .inr (.inl c_this_desk_ranks))), (a_this_desk_sizes, .inl (cI, 60, .inl c_this_desk_sizes)), (a_this_draft, .inl (cI, 60, .inl c_this_draft)), (q_31, .inr (5, [.int 0, .int 0, .long 0, .int 0, .int 0]))] H := hP
              have hD : va_D A [(a_this, .inr (8, [.ref a_this_buffer, .ref a_this_draft, .ref a_this_desk, .ref a_this_archive, .ref a_this_present])), (a_this_buffer, .inl (cI, 60, .inl c_this_buffer)), (a_this_desk_letters, .inl (cI, 4, .inl c_this_desk_letters)), (a_this_desk_ranks, .inl (cJ, 60, .inr (.inl c_this_desk_ranks))), (a_this_desk_sizes, .inl (cI, 60, .inl c_this_desk_sizes)), (a_this_draft, .inl (cI, 60, .inl c_this_draft)), (q_31, .inr (5, [.int 0, .int 0, .long 0, .int 0, .int 0]))] := hD
              obtain ⟨r_47, hc_47, h⟩ := rk_bd h
              refine rk_v (wr := [(a_this, .inr (8, [.ref a_this_buffer, .ref a_this_draft, .ref a_this_desk, .ref a_this_archive, .ref a_this_present])), (a_this_buffer, .inl (cI, 60, .inl c_this_buffer)), (a_this_desk_letters, .inl (cI, 4, .inl c_this_desk_letters)), (a_this_desk_ranks, .inl (cJ, 60, .inr (.inl c_this_desk_ranks))), (a_this_desk_sizes, .inl (cI, 60, .inl c_this_desk_sizes)), (a_this_draft, .inl (cI, 60, .inl c_this_draft))]) (va_runIN (As := [.int v_p1, .int v_p2, .int v_p3, .long r_44]) (rest := [.ref q_31, .ref a_this]) hF (mtX6_init l D cI cJ cO PL _ q_31 v_p1 v_p2 v_p3 r_44 r_47 hc_47) ⟨va_cnB 4 htc (rk_gw w_1_112) rfl rfl rfl (hV.2.1 _ nw_1_110) (htc _ w_1_6) (by decide +kernel) ⟨(Nat.le_of_ble_eq_true rfl), (Nat.le_of_ble_eq_true rfl)⟩, rfl, htc _ w_1_111⟩ (rk_preS hP hD hS hR hn hPL hnl hV [6] [] rfl (by decide) rfl (by decide)) rfl rfl hl.1 rfl (lv_room (Nat.le_of_ble_eq_true rfl)) dX9_selectSubsets_47 ⟨(Nat.le_of_ble_eq_true rfl), (Nat.le_of_ble_eq_true rfl)⟩) hP hD hS hA hR0 hn [6] [0, 1, 2, 3, 4, 5] rfl rfl (by decide) (by decide) (fun H locs hP hD hS hR => ?_)
              have hP : va_P D vwCl [(a_this, .inr (8, [.ref a_this_buffer, .ref a_this_draft, .ref a_this_desk, .ref a_this_archive, .ref a_this_present])), (a_this_buffer, .inl (cI, 60, .inl c_this_buffer)), (a_this_desk_letters, .inl (cI, 4, .inl c_this_desk_letters)), (a_this_desk_ranks, .inl (cJ, 60, .inr (.inl c_this_desk_ranks))), (a_this_desk_sizes, .inl (cI, 60, .inl c_this_desk_sizes)), (a_this_draft, .inl (cI, 60, .inl c_this_draft)), (q_31, .inr (5, [.int r_47.1, .int r_47.2.1, .long r_47.2.2.1, .int r_47.2.2.2.1, .int r_47.2.2.2.2]))] H := hP
              have hD : va_D A [(a_this, .inr (8, [.ref a_this_buffer, .ref a_this_draft, .ref a_this_desk, .ref a_this_archive, .ref a_this_present])), (a_this_buffer, .inl (cI, 60, .inl c_this_buffer)), (a_this_desk_letters, .inl (cI, 4, .inl c_this_desk_letters)), (a_this_desk_ranks, .inl (cJ, 60, .inr (.inl c_this_desk_ranks))), (a_this_desk_sizes, .inl (cI, 60, .inl c_this_desk_sizes)), (a_this_draft, .inl (cI, 60, .inl c_this_draft)), (q_31, .inr (5, [.int r_47.1, .int r_47.2.1, .long r_47.2.2.1, .int r_47.2.2.2.1, .int r_47.2.2.2.2]))] := hD
              obtain ⟨r_50, hc_50, h⟩ := rk_bd h
              refine rk_i (wr := [(q_31, .inr (5, [.int r_47.1, .int r_47.2.1, .long r_47.2.2.1, .int r_47.2.2.2.1, .int r_47.2.2.2.2]))]) (va_runV (C := RX9) (As := [.ref q_31]) (rest := []) hF (mtX9_choose l D cI cJ cO PL _ a_this a_this_buffer a_this_draft a_this_desk a_this_archive a_this_present q_31 ((0, r_47.1, r_47.2.1, r_47.2.2.1, r_47.2.2.2.1, r_47.2.2.2.2, 0, 0) : Fm) c_this_buffer c_this_draft a_this_desk_binomials a_this_desk_partitionCounts a_this_desk_treeCounts a_this_desk_sizes a_this_desk_starts a_this_desk_ranks a_this_desk_letters c_this_desk_letters c_this_desk_ranks c_this_desk_sizes c_this_desk_binomials c_this_desk_partitionCounts c_this_desk_treeCounts r_50 hc_50) (cwV 1 htc (rk_gV w_1_176 w_1_178 ws_1 w_1_1 w_1_179) rfl rfl rfl (by decide +kernel) ⟨(Nat.le_of_ble_eq_true rfl), (Nat.le_of_ble_eq_true rfl)⟩) (rk_preV (va_recv hV.1 hP (ci := 8) (q0 := 0) rfl rfl) (rk_preS hP hD hS hR hn hPL hnl hV [0, 1, 2, 3, 4, 5] [(false, 0), (false, 1), (false, 2), (false, 3), (true, 6)] rfl (by decide) rfl (by decide))) rfl rfl hl.1 rfl (lv_room (Nat.le_of_ble_eq_true rfl)) dX9_selectSubsets_50 ⟨(Nat.le_of_ble_eq_true rfl), (Nat.le_of_ble_eq_true rfl)⟩) hP hD hS hA hR0 hn [0, 1, 2, 3, 4, 5] [6] rfl rfl (by decide) (by decide) (fun H locs hP hD hS hR => ?_)
              have hP : va_P D vwCl [(q_31, .inr (5, [.int r_47.1, .int r_47.2.1, .long r_47.2.2.1, .int r_47.2.2.2.1, .int r_47.2.2.2.2])), (a_this, .inr (8, [.ref a_this_buffer, .ref a_this_draft, .ref a_this_desk, .ref a_this_archive, .ref q_31])), (a_this_buffer, .inl (cI, 60, .inl r_50.2.1)), (a_this_desk_letters, .inl (cI, 4, .inl r_50.2.2.1)), (a_this_desk_ranks, .inl (cJ, 60, .inr (.inl r_50.2.2.2.1))), (a_this_desk_sizes, .inl (cI, 60, .inl r_50.2.2.2.2.1)), (a_this_draft, .inl (cI, 60, .inl r_50.2.2.2.2.2))] H := hP
              have hD : va_D A [(q_31, .inr (5, [.int r_47.1, .int r_47.2.1, .long r_47.2.2.1, .int r_47.2.2.2.1, .int r_47.2.2.2.2])), (a_this, .inr (8, [.ref a_this_buffer, .ref a_this_draft, .ref a_this_desk, .ref a_this_archive, .ref q_31])), (a_this_buffer, .inl (cI, 60, .inl r_50.2.1)), (a_this_desk_letters, .inl (cI, 4, .inl r_50.2.2.1)), (a_this_desk_ranks, .inl (cJ, 60, .inr (.inl r_50.2.2.2.1))), (a_this_desk_sizes, .inl (cI, 60, .inl r_50.2.2.2.2.1)), (a_this_draft, .inl (cI, 60, .inl r_50.2.2.2.2.2))] := hD
              refine W.widen (k := 1) (n := 5) (Nat.le_of_ble_eq_true rfl) (Nat.le_of_ble_eq_true rfl) ?_
              exact hret (r_50.1, (some ((0, r_47.1, r_47.2.1, r_47.2.2.1, r_47.2.2.2.1, r_47.2.2.2.2, 0, 0) : Fm)), r_50.2.1, r_50.2.2.1, r_50.2.2.2.1, r_50.2.2.2.2.1, r_50.2.2.2.2.2) (rk_qs [q_31]) _ _ _ _ h dX9_selectSubsets_53 (hP.sub [1, 2, 3, 4, 5, 6, 0] rfl) (hD.sub [1, 2, 3, 4, 5, 6, 0] (by decide) rfl) hS
            · have h := rk_nif hc6 h
              refine lv_iconst (v := (-1)) hx hb dX9_selectSubsets_28 (by decide) ?_
              refine W.widen (k := 1) (n := 5) (Nat.le_of_ble_eq_true rfl) (Nat.le_of_ble_eq_true rfl) ?_
              exact hret ((-1 : Int32), (none : Option Fm), c_this_buffer, c_this_desk_letters, c_this_desk_ranks, c_this_desk_sizes, c_this_draft) (rk_qs []) _ _ _ _ h dX9_selectSubsets_29 hP hD hS
set_option maxHeartbeats 4000000 in
set_option maxRecDepth 100000 in
theorem mtX9_selectPermutations (l : Launch) (D : va_G) (cI cJ cO : ClassId) (PL : va_W) (sz : Nat) (a_this : Nat) (a_this_buffer : Nat) (a_this_draft : Nat) (a_this_desk : Nat) (a_this_archive : Nat) (a_this_present : Nat) (c_this_buffer : Nat → Int32) (c_this_draft : Nat → Int32) (a_this_desk_binomials : Nat) (a_this_desk_partitionCounts : Nat) (a_this_desk_treeCounts : Nat) (a_this_desk_sizes : Nat) (a_this_desk_starts : Nat) (a_this_desk_ranks : Nat) (a_this_desk_letters : Nat) (c_this_desk_letters : Nat → Int32) (c_this_desk_ranks : Nat → Int64) (c_this_desk_sizes : Nat → Int32) (c_this_desk_binomials : Nat → Int64) (c_this_desk_partitionCounts : Nat → Int32) (c_this_desk_treeCounts : Nat → Int64) (v_p1 : Int32) (v_p2 : Int32) (r0 : Int32 × Option Fm × (Nat → Int32) × (Nat → Int32) × (Nat → Int64) × (Nat → Int32) × (Nat → Int32)) (h : fX9_selectPermutations c_this_buffer c_this_draft c_this_desk_letters c_this_desk_ranks c_this_desk_sizes c_this_desk_binomials c_this_desk_partitionCounts c_this_desk_treeCounts v_p1 v_p2 = some r0) : Met l yX9_selectPermutations (rk_w yX9_selectPermutations cX9_selectPermutations 3 (some .int)) rmX9_selectPermutations (va_Pc [.ref a_this, .int v_p1, .int v_p2] (rk_B D (rk_TY cI cJ cO) [(a_this, .inr (8, [.ref a_this_buffer, .ref a_this_draft, .ref a_this_desk, .ref a_this_archive, .ref a_this_present])), (a_this_buffer, .inl (cI, 60, .inl c_this_buffer)), (a_this_desk_letters, .inl (cI, 4, .inl c_this_desk_letters)), (a_this_desk_ranks, .inl (cJ, 60, .inr (.inl c_this_desk_ranks))), (a_this_desk_sizes, .inl (cI, 60, .inl c_this_desk_sizes)), (a_this_draft, .inl (cI, 60, .inl c_this_draft))] [(a_this_desk, .inr (2, [.ref a_this_desk_binomials, .ref a_this_desk_partitionCounts, .ref a_this_desk_treeCounts, .ref a_this_desk_sizes, .ref a_this_desk_starts, .ref a_this_desk_ranks, .ref a_this_desk_letters])), (a_this_desk_binomials, .inl (cJ, 1891, .inr (.inl c_this_desk_binomials))), (a_this_desk_partitionCounts, .inl (cI, 1891, .inl c_this_desk_partitionCounts)), (a_this_desk_treeCounts, .inl (cJ, 31, .inr (.inl c_this_desk_treeCounts)))] PL sz)) (rk_Qie r0.1 D (fun q => ([(a_this, .inr (8, [.ref a_this_buffer, .ref a_this_draft, .ref a_this_desk, .ref a_this_archive, .ref (rk_pn r0.2.1 a_this_present (q 0))])), (a_this_buffer, .inl (cI, 60, .inl r0.2.2.1)), (a_this_desk_letters, .inl (cI, 4, .inl r0.2.2.2.1)), (a_this_desk_ranks, .inl (cJ, 60, .inr (.inl r0.2.2.2.2.1))), (a_this_desk_sizes, .inl (cI, 60, .inl r0.2.2.2.2.2.1)), (a_this_draft, .inl (cI, 60, .inl r0.2.2.2.2.2.2))] ++ rk_nc r0.2.1 (q 0))) [(a_this, .inr (8, [.ref a_this_buffer, .ref a_this_draft, .ref a_this_desk, .ref a_this_archive, .ref a_this_present])), (a_this_buffer, .inl (cI, 60, .inl c_this_buffer)), (a_this_desk_letters, .inl (cI, 4, .inl c_this_desk_letters)), (a_this_desk_ranks, .inl (cJ, 60, .inr (.inl c_this_desk_ranks))), (a_this_desk_sizes, .inl (cI, 60, .inl c_this_desk_sizes)), (a_this_draft, .inl (cI, 60, .inl c_this_draft))] sz) 1 4 (va_A [(a_this, .inr (8, [.ref a_this_buffer, .ref a_this_draft, .ref a_this_desk, .ref a_this_archive, .ref a_this_present])), (a_this_buffer, .inl (cI, 60, .inl c_this_buffer)), (a_this_desk_letters, .inl (cI, 4, .inl c_this_desk_letters)), (a_this_desk_ranks, .inl (cJ, 60, .inr (.inl c_this_desk_ranks))), (a_this_desk_sizes, .inl (cI, 60, .inl c_this_desk_sizes)), (a_this_draft, .inl (cI, 60, .inl c_this_draft))] sz) := by
  refine rk_metie (y := yX9_selectPermutations) (cc := cX9_selectPermutations) (maxL := 3) (av := [.ref a_this, .int v_p1, .int v_p2]) (sz := sz) h (fun x : Int32 × Option Fm × (Nat → Int32) × (Nat → Int32) × (Nat → Int64) × (Nat → Int32) × (Nat → Int32) => x.1) (fun x q => ([(a_this, .inr (8, [.ref a_this_buffer, .ref a_this_draft, .ref a_this_desk, .ref a_this_archive, .ref (rk_pn x.2.1 a_this_present (q 0))])), (a_this_buffer, .inl (cI, 60, .inl x.2.2.1)), (a_this_desk_letters, .inl (cI, 4, .inl x.2.2.2.1)), (a_this_desk_ranks, .inl (cJ, 60, .inr (.inl x.2.2.2.2.1))), (a_this_desk_sizes, .inl (cI, 60, .inl x.2.2.2.2.2.1)), (a_this_draft, .inl (cI, 60, .inl x.2.2.2.2.2.2))] ++ rk_nc x.2.1 (q 0))) (by decide) (Nat.le_of_ble_eq_true rfl) ?_
  intro p e s m args below meth c A ls Q hret hname hF hP hD hA hV hR0 hn hPL hnl hl h hS
  have hx := hF.1
  have hb := hF.2.1
  have hml := hF.2.2.1
  have hown : s.vm.findClass RX9 = some m.cls := hF.2.2.2.1
  have htc := hF.2.2.2.2
  have hP : va_P D vwCl [(a_this, .inr (8, [.ref a_this_buffer, .ref a_this_draft, .ref a_this_desk, .ref a_this_archive, .ref a_this_present])), (a_this_buffer, .inl (cI, 60, .inl c_this_buffer)), (a_this_desk_letters, .inl (cI, 4, .inl c_this_desk_letters)), (a_this_desk_ranks, .inl (cJ, 60, .inr (.inl c_this_desk_ranks))), (a_this_desk_sizes, .inl (cI, 60, .inl c_this_desk_sizes)), (a_this_draft, .inl (cI, 60, .inl c_this_draft))] s.heap := hP
  have hD : va_D A [(a_this, .inr (8, [.ref a_this_buffer, .ref a_this_draft, .ref a_this_desk, .ref a_this_archive, .ref a_this_present])), (a_this_buffer, .inl (cI, 60, .inl c_this_buffer)), (a_this_desk_letters, .inl (cI, 4, .inl c_this_desk_letters)), (a_this_desk_ranks, .inl (cJ, 60, .inr (.inl c_this_desk_ranks))), (a_this_desk_sizes, .inl (cI, 60, .inl c_this_desk_sizes)), (a_this_draft, .inl (cI, 60, .inl c_this_draft))] := hD
  have hR0 : va_P D vwCl [(a_this_desk, .inr (2, [.ref a_this_desk_binomials, .ref a_this_desk_partitionCounts, .ref a_this_desk_treeCounts, .ref a_this_desk_sizes, .ref a_this_desk_starts, .ref a_this_desk_ranks, .ref a_this_desk_letters])), (a_this_desk_binomials, .inl (cJ, 1891, .inr (.inl c_this_desk_binomials))), (a_this_desk_partitionCounts, .inl (cI, 1891, .inl c_this_desk_partitionCounts)), (a_this_desk_treeCounts, .inl (cJ, 31, .inr (.inl c_this_desk_treeCounts)))] s.heap := hR0
  have hR := hR0
  have hl : lv_has ls 3 [(0, .ref a_this), (1, .int v_p1), (2, .int v_p2)] := hl
  unfold fX9_selectPermutations at h
  refine lv_iload_n hx hb dX9_selectPermutations_0 rfl (lv_at hl 1 rfl) ?_
  refine lv_iconst (v := 1) hx hb dX9_selectPermutations_1 (by decide) ?_
  refine lv_icmp_lt (tgt := 20) hx hb dX9_selectPermutations_2 (by decide) (fun hc1 => ?_) (fun hc1 => ?_)
  · have h := rk_if hc1 h
    refine lv_iconst (v := (-1)) hx hb dX9_selectPermutations_20 (by decide) ?_
    refine W.widen (k := 1) (n := 4) (Nat.le_of_ble_eq_true rfl) (Nat.le_of_ble_eq_true rfl) ?_
    exact hret ((-1 : Int32), (none : Option Fm), c_this_buffer, c_this_desk_letters, c_this_desk_ranks, c_this_desk_sizes, c_this_draft) (rk_qs []) _ _ _ _ h dX9_selectPermutations_21 hP hD hS
  · have h := rk_nif hc1 h
    refine lv_iload_n hx hb dX9_selectPermutations_5 rfl (lv_at hl 1 rfl) ?_
    refine lv_bipush (v := 20) hx hb dX9_selectPermutations_6 (by decide) ?_
    refine lv_icmp_gt (tgt := 20) hx hb dX9_selectPermutations_8 (by decide) (fun hc2 => ?_) (fun hc2 => ?_)
    · have h := rk_if hc2 h
      refine lv_iconst (v := (-1)) hx hb dX9_selectPermutations_20 (by decide) ?_
      refine W.widen (k := 1) (n := 4) (Nat.le_of_ble_eq_true rfl) (Nat.le_of_ble_eq_true rfl) ?_
      exact hret ((-1 : Int32), (none : Option Fm), c_this_buffer, c_this_desk_letters, c_this_desk_ranks, c_this_desk_sizes, c_this_draft) (rk_qs []) _ _ _ _ h dX9_selectPermutations_21 hP hD hS
    · have h := rk_nif hc2 h
      refine lv_iload_n hx hb dX9_selectPermutations_11 rfl (lv_at hl 2 rfl) ?_
      refine lv_if_lt (tgt := 20) hx hb dX9_selectPermutations_12 (by decide) (fun hc3 => ?_) (fun hc3 => ?_)
      · have h := rk_if hc3 h
        refine lv_iconst (v := (-1)) hx hb dX9_selectPermutations_20 (by decide) ?_
        refine W.widen (k := 1) (n := 4) (Nat.le_of_ble_eq_true rfl) (Nat.le_of_ble_eq_true rfl) ?_
        exact hret ((-1 : Int32), (none : Option Fm), c_this_buffer, c_this_desk_letters, c_this_desk_ranks, c_this_desk_sizes, c_this_draft) (rk_qs []) _ _ _ _ h dX9_selectPermutations_21 hP hD hS
      · have h := rk_nif hc3 h
        refine lv_iload_n hx hb dX9_selectPermutations_15 rfl (lv_at hl 2 rfl) ?_
        refine lv_iconst (v := 1) hx hb dX9_selectPermutations_16 (by decide) ?_
        refine lv_icmp_le (tgt := 22) hx hb dX9_selectPermutations_17 (by decide) (fun hc4 => ?_) (fun hc4 => ?_)
        · have h := rk_if hc4 h
          refine lv_aload_n hx hb dX9_selectPermutations_22 rfl (lv_at hl 0 rfl) ?_
          refine va_new (ci := 4) (fs := [.int 0, .int 0, .long 0, .int 0]) (C := RX5) (T := TX5) (N := 4) hx hb htc inX5 tyX5 tyX5_ok hown (htc _ w_2_67) (htc _ w_1_223) (htc _ w_1_9) hV.1 hP hD hS hA rfl (fun j hj => by rcases (show j = 0 ∨ j = 1 ∨ j = 2 ∨ j = 3 by omega) with rfl | rfl | rfl | rfl <;> rfl) (Nat.le_of_ble_eq_true rfl) (Nat.le_of_ble_eq_true rfl) dX9_selectPermutations_23 (fun q_23 H hP hD hS => ?_)
          have hP : va_P D vwCl [(a_this, .inr (8, [.ref a_this_buffer, .ref a_this_draft, .ref a_this_desk, .ref a_this_archive, .ref a_this_present])), (a_this_buffer, .inl (cI, 60, .inl c_this_buffer)), (a_this_desk_letters, .inl (cI, 4, .inl c_this_desk_letters)), (a_this_desk_ranks, .inl (cJ, 60, .inr (.inl c_this_desk_ranks))), (a_this_desk_sizes, .inl (cI, 60, .inl c_this_desk_sizes)), (a_this_draft, .inl (cI, 60, .inl c_this_draft)), (q_23, .inr (4, [.int 0, .int 0, .long 0, .int 0]))] H := hP
          have hD : va_D A [(a_this, .inr (8, [.ref a_this_buffer, .ref a_this_draft, .ref a_this_desk, .ref a_this_archive, .ref a_this_present])), (a_this_buffer, .inl (cI, 60, .inl c_this_buffer)), (a_this_desk_letters, .inl (cI, 4, .inl c_this_desk_letters)), (a_this_desk_ranks, .inl (cJ, 60, .inr (.inl c_this_desk_ranks))), (a_this_desk_sizes, .inl (cI, 60, .inl c_this_desk_sizes)), (a_this_draft, .inl (cI, 60, .inl c_this_draft)), (q_23, .inr (4, [.int 0, .int 0, .long 0, .int 0]))] := hD
          have hR := rk_keep hR0 hn hS
          refine lv_dup hx hb dX9_selectPermutations_26 rfl ?_
          refine lv_iload_n hx hb dX9_selectPermutations_27 rfl (lv_at hl 1 rfl) ?_
          refine lv_iload_n hx hb dX9_selectPermutations_28 rfl (lv_at hl 2 rfl) ?_
          refine lv_iload_n hx hb dX9_selectPermutations_29 rfl (lv_at hl 1 rfl) ?_
          obtain ⟨r_30, hc_30, h⟩ := rk_bd h
          refine rk_l (wr := [(a_this, .inr (8, [.ref a_this_buffer, .ref a_this_draft, .ref a_this_desk, .ref a_this_archive, .ref a_this_present])), (a_this_buffer, .inl (cI, 60, .inl c_this_buffer)), (a_this_desk_letters, .inl (cI, 4, .inl c_this_desk_letters)), (a_this_desk_ranks, .inl (cJ, 60, .inr (.inl c_this_desk_ranks))), (a_this_desk_sizes, .inl (cI, 60, .inl c_this_desk_sizes)), (a_this_draft, .inl (cI, 60, .inl c_this_draft)), (q_23, .inr (4, [.int 0, .int 0, .long 0, .int 0]))]) (va_runSN (As := [.int v_p1]) (rest := [.int v_p2, .int v_p1, .ref q_23, .ref q_23, .ref a_this]) hF (mtX5_factorial l D cI cJ cO PL _ v_p1 r_30 hc_30) ⟨va_cnB 1 htc (rk_gw w_2_70) rfl rfl rfl (hV.2.1 _ nw_2_68) (htc _ w_1_9) (by decide +kernel) ⟨(Nat.le_of_ble_eq_true rfl), (Nat.le_of_ble_eq_true rfl)⟩, htc _ w_2_69, trivial⟩ (rk_preS hP hD hS hR hn hPL hnl hV [] [] rfl (by decide) rfl (by decide)) rfl rfl hl.1 rfl (lv_room (Nat.le_of_ble_eq_true rfl)) dX9_selectPermutations_30 ⟨(Nat.le_of_ble_eq_true rfl), (Nat.le_of_ble_eq_true rfl)⟩) hP hD hS hA hR0 hn [] [0, 1, 2, 3, 4, 5, 6] rfl rfl (by decide) (by decide) (fun H locs hP hD hS hR => ?_)
          have hP : va_P D vwCl [(a_this, .inr (8, [.ref a_this_buffer, .ref a_this_draft, .ref a_this_desk, .ref a_this_archive, .ref a_this_present])), (a_this_buffer, .inl (cI, 60, .inl c_this_buffer)), (a_this_desk_letters, .inl (cI, 4, .inl c_this_desk_letters)), (a_this_desk_ranks, .inl (cJ, 60, .inr (.inl c_this_desk_ranks))), (a_this_desk_sizes, .inl (cI, 60, .inl c_this_desk_sizes)), (a_this_draft, .inl (cI, 60, .inl c_this_draft)), (q_23, .inr (4, [.int 0, .int 0, .long 0, .int 0]))] H := hP
          have hD : va_D A [(a_this, .inr (8, [.ref a_this_buffer, .ref a_this_draft, .ref a_this_desk, .ref a_this_archive, .ref a_this_present])), (a_this_buffer, .inl (cI, 60, .inl c_this_buffer)), (a_this_desk_letters, .inl (cI, 4, .inl c_this_desk_letters)), (a_this_desk_ranks, .inl (cJ, 60, .inr (.inl c_this_desk_ranks))), (a_this_desk_sizes, .inl (cI, 60, .inl c_this_desk_sizes)), (a_this_draft, .inl (cI, 60, .inl c_this_draft)), (q_23, .inr (4, [.int 0, .int 0, .long 0, .int 0]))] := hD
          obtain ⟨r_33, hc_33, h⟩ := rk_bd h
          refine rk_v (wr := [(a_this, .inr (8, [.ref a_this_buffer, .ref a_this_draft, .ref a_this_desk, .ref a_this_archive, .ref a_this_present])), (a_this_buffer, .inl (cI, 60, .inl c_this_buffer)), (a_this_desk_letters, .inl (cI, 4, .inl c_this_desk_letters)), (a_this_desk_ranks, .inl (cJ, 60, .inr (.inl c_this_desk_ranks))), (a_this_desk_sizes, .inl (cI, 60, .inl c_this_desk_sizes)), (a_this_draft, .inl (cI, 60, .inl c_this_draft))]) (va_runIN (As := [.int v_p1, .int v_p2, .long r_30]) (rest := [.ref q_23, .ref a_this]) hF (mtX5_init l D cI cJ cO PL _ q_23 v_p1 v_p2 r_30 r_33 hc_33) ⟨va_cnB 3 htc (rk_gw w_2_73) rfl rfl rfl (hV.2.1 _ nw_2_71) (htc _ w_1_9) (by decide +kernel) ⟨(Nat.le_of_ble_eq_true rfl), (Nat.le_of_ble_eq_true rfl)⟩, rfl, htc _ w_2_72⟩ (rk_preS hP hD hS hR hn hPL hnl hV [6] [] rfl (by decide) rfl (by decide)) rfl rfl hl.1 rfl (lv_room (Nat.le_of_ble_eq_true rfl)) dX9_selectPermutations_33 ⟨(Nat.le_of_ble_eq_true rfl), (Nat.le_of_ble_eq_true rfl)⟩) hP hD hS hA hR0 hn [6] [0, 1, 2, 3, 4, 5] rfl rfl (by decide) (by decide) (fun H locs hP hD hS hR => ?_)
          have hP : va_P D vwCl [(a_this, .inr (8, [.ref a_this_buffer, .ref a_this_draft, .ref a_this_desk, .ref a_this_archive, .ref a_this_present])), (a_this_buffer, .inl (cI, 60, .inl c_this_buffer)), (a_this_desk_letters, .inl (cI, 4, .inl c_this_desk_letters)), (a_this_desk_ranks, .inl (cJ, 60, .inr (.inl c_this_desk_ranks))), (a_this_desk_sizes, .inl (cI, 60, .inl c_this_desk_sizes)), (a_this_draft, .inl (cI, 60, .inl c_this_draft)), (q_23, .inr (4, [.int r_33.1, .int r_33.2.1, .long r_33.2.2.1, .int r_33.2.2.2]))] H := hP
          have hD : va_D A [(a_this, .inr (8, [.ref a_this_buffer, .ref a_this_draft, .ref a_this_desk, .ref a_this_archive, .ref a_this_present])), (a_this_buffer, .inl (cI, 60, .inl c_this_buffer)), (a_this_desk_letters, .inl (cI, 4, .inl c_this_desk_letters)), (a_this_desk_ranks, .inl (cJ, 60, .inr (.inl c_this_desk_ranks))), (a_this_desk_sizes, .inl (cI, 60, .inl c_this_desk_sizes)), (a_this_draft, .inl (cI, 60, .inl c_this_draft)), (q_23, .inr (4, [.int r_33.1, .int r_33.2.1, .long r_33.2.2.1, .int r_33.2.2.2]))] := hD
          obtain ⟨r_36, hc_36, h⟩ := rk_bd h
          refine rk_i (wr := [(q_23, .inr (4, [.int r_33.1, .int r_33.2.1, .long r_33.2.2.1, .int r_33.2.2.2]))]) (va_runV (C := RX9) (As := [.ref q_23]) (rest := []) hF (mtX9_choose l D cI cJ cO PL _ a_this a_this_buffer a_this_draft a_this_desk a_this_archive a_this_present q_23 ((1, r_33.1, r_33.2.1, r_33.2.2.1, r_33.2.2.2, 0, 0, 0) : Fm) c_this_buffer c_this_draft a_this_desk_binomials a_this_desk_partitionCounts a_this_desk_treeCounts a_this_desk_sizes a_this_desk_starts a_this_desk_ranks a_this_desk_letters c_this_desk_letters c_this_desk_ranks c_this_desk_sizes c_this_desk_binomials c_this_desk_partitionCounts c_this_desk_treeCounts r_36 hc_36) (cwV 1 htc (rk_gV w_1_176 w_1_178 ws_1 w_1_1 w_1_179) rfl rfl rfl (by decide +kernel) ⟨(Nat.le_of_ble_eq_true rfl), (Nat.le_of_ble_eq_true rfl)⟩) (rk_preV (va_recv hV.1 hP (ci := 8) (q0 := 0) rfl rfl) (rk_preS hP hD hS hR hn hPL hnl hV [0, 1, 2, 3, 4, 5] [(false, 0), (false, 1), (false, 2), (false, 3), (true, 6)] rfl (by decide) rfl (by decide))) rfl rfl hl.1 rfl (lv_room (Nat.le_of_ble_eq_true rfl)) dX9_selectPermutations_36 ⟨(Nat.le_of_ble_eq_true rfl), (Nat.le_of_ble_eq_true rfl)⟩) hP hD hS hA hR0 hn [0, 1, 2, 3, 4, 5] [6] rfl rfl (by decide) (by decide) (fun H locs hP hD hS hR => ?_)
          have hP : va_P D vwCl [(q_23, .inr (4, [.int r_33.1, .int r_33.2.1, .long r_33.2.2.1, .int r_33.2.2.2])), (a_this, .inr (8, [.ref a_this_buffer, .ref a_this_draft, .ref a_this_desk, .ref a_this_archive, .ref q_23])), (a_this_buffer, .inl (cI, 60, .inl r_36.2.1)), (a_this_desk_letters, .inl (cI, 4, .inl r_36.2.2.1)), (a_this_desk_ranks, .inl (cJ, 60, .inr (.inl r_36.2.2.2.1))), (a_this_desk_sizes, .inl (cI, 60, .inl r_36.2.2.2.2.1)), (a_this_draft, .inl (cI, 60, .inl r_36.2.2.2.2.2))] H := hP
          have hD : va_D A [(q_23, .inr (4, [.int r_33.1, .int r_33.2.1, .long r_33.2.2.1, .int r_33.2.2.2])), (a_this, .inr (8, [.ref a_this_buffer, .ref a_this_draft, .ref a_this_desk, .ref a_this_archive, .ref q_23])), (a_this_buffer, .inl (cI, 60, .inl r_36.2.1)), (a_this_desk_letters, .inl (cI, 4, .inl r_36.2.2.1)), (a_this_desk_ranks, .inl (cJ, 60, .inr (.inl r_36.2.2.2.1))), (a_this_desk_sizes, .inl (cI, 60, .inl r_36.2.2.2.2.1)), (a_this_draft, .inl (cI, 60, .inl r_36.2.2.2.2.2))] := hD
          refine W.widen (k := 1) (n := 4) (Nat.le_of_ble_eq_true rfl) (Nat.le_of_ble_eq_true rfl) ?_
          exact hret (r_36.1, (some ((1, r_33.1, r_33.2.1, r_33.2.2.1, r_33.2.2.2, 0, 0, 0) : Fm)), r_36.2.1, r_36.2.2.1, r_36.2.2.2.1, r_36.2.2.2.2.1, r_36.2.2.2.2.2) (rk_qs [q_23]) _ _ _ _ h dX9_selectPermutations_39 (hP.sub [1, 2, 3, 4, 5, 6, 0] rfl) (hD.sub [1, 2, 3, 4, 5, 6, 0] (by decide) rfl) hS
        · have h := rk_nif hc4 h
          refine lv_iconst (v := (-1)) hx hb dX9_selectPermutations_20 (by decide) ?_
          refine W.widen (k := 1) (n := 4) (Nat.le_of_ble_eq_true rfl) (Nat.le_of_ble_eq_true rfl) ?_
          exact hret ((-1 : Int32), (none : Option Fm), c_this_buffer, c_this_desk_letters, c_this_desk_ranks, c_this_desk_sizes, c_this_draft) (rk_qs []) _ _ _ _ h dX9_selectPermutations_21 hP hD hS
set_option maxHeartbeats 4000000 in
set_option maxRecDepth 100000 in
theorem mtX9_wordsOf (l : Launch) (D : va_G) (cI cJ cO : ClassId) (PL : va_W) (sz : Nat) (a_this : Nat) (a_this_buffer : Nat) (a_this_draft : Nat) (a_this_desk : Nat) (a_this_archive : Nat) (a_this_present : Nat) (a_this_desk_binomials : Nat) (a_this_desk_partitionCounts : Nat) (a_this_desk_treeCounts : Nat) (a_this_desk_sizes : Nat) (a_this_desk_starts : Nat) (a_this_desk_ranks : Nat) (a_this_desk_letters : Nat) (c_this_desk_binomials : Nat → Int64) (v_p1 : Int32) (v_p2 : Int32) (r0 : Fm) (h : fX9_wordsOf c_this_desk_binomials v_p1 v_p2 = some r0) : Met l yX9_wordsOf (rk_w yX9_wordsOf cX9_wordsOf 3 (some (.object "EnumerativeCoder$Family"))) rmX9_wordsOf (va_Pc [.ref a_this, .int v_p1, .int v_p2] (rk_B D (rk_TY cI cJ cO) [] [(a_this, .inr (8, [.ref a_this_buffer, .ref a_this_draft, .ref a_this_desk, .ref a_this_archive, .ref a_this_present])), (a_this_desk, .inr (2, [.ref a_this_desk_binomials, .ref a_this_desk_partitionCounts, .ref a_this_desk_treeCounts, .ref a_this_desk_sizes, .ref a_this_desk_starts, .ref a_this_desk_ranks, .ref a_this_desk_letters])), (a_this_desk_binomials, .inl (cJ, 1891, .inr (.inl c_this_desk_binomials)))] PL sz)) (rk_Qr D (fun ra => [(ra, rk_fam r0)]) [] sz) 1 5 (va_A [] sz) := by
  refine rk_metr (Or.inl ⟨_, rfl⟩) h (fun x ra => [(ra, rk_fam x)]) (by decide) (Nat.le_of_ble_eq_true rfl) ?_
  intro p e s m args below meth c A ls Q hret hname hF hP hD hA hV hR0 hn hPL hnl hl h hS
  have hx := hF.1
  have hb := hF.2.1
  have hml := hF.2.2.1
  have hown : s.vm.findClass RX9 = some m.cls := hF.2.2.2.1
  have htc := hF.2.2.2.2
  have hP : va_P D vwCl [] s.heap := hP
  have hD : va_D A [] := hD
  have hR0 : va_P D vwCl [(a_this, .inr (8, [.ref a_this_buffer, .ref a_this_draft, .ref a_this_desk, .ref a_this_archive, .ref a_this_present])), (a_this_desk, .inr (2, [.ref a_this_desk_binomials, .ref a_this_desk_partitionCounts, .ref a_this_desk_treeCounts, .ref a_this_desk_sizes, .ref a_this_desk_starts, .ref a_this_desk_ranks, .ref a_this_desk_letters])), (a_this_desk_binomials, .inl (cJ, 1891, .inr (.inl c_this_desk_binomials)))] s.heap := hR0
  have hR := hR0
  have hl : lv_has ls 3 [(0, .ref a_this), (1, .int v_p1), (2, .int v_p2)] := hl
  unfold fX9_wordsOf at h
  refine va_new (ci := 7) (fs := [.int 0, .int 0, .long 0, .int 0, .int 0]) (C := RX8) (T := TX8) (N := 5) hx hb htc inX8 tyX8 tyX8_ok hown (htc _ w_2_90) (htc _ w_2_38) (htc _ w_1_11) hV.1 hP hD hS hA rfl (fun j hj => by rcases (show j = 0 ∨ j = 1 ∨ j = 2 ∨ j = 3 ∨ j = 4 by omega) with rfl | rfl | rfl | rfl | rfl <;> rfl) (Nat.le_of_ble_eq_true rfl) (Nat.le_of_ble_eq_true rfl) dX9_wordsOf_0 (fun q_0 H hP hD hS => ?_)
  have hP : va_P D vwCl [(q_0, .inr (7, [.int 0, .int 0, .long 0, .int 0, .int 0]))] H := hP
  have hD : va_D A [(q_0, .inr (7, [.int 0, .int 0, .long 0, .int 0, .int 0]))] := hD
  have hR := rk_keep hR0 hn hS
  refine lv_dup hx hb dX9_wordsOf_3 rfl ?_
  refine lv_iload_n hx hb dX9_wordsOf_4 rfl (lv_at hl 1 rfl) ?_
  refine lv_iload_n hx hb dX9_wordsOf_5 rfl (lv_at hl 2 rfl) ?_
  refine lv_aload_n hx hb dX9_wordsOf_6 rfl (lv_at hl 0 rfl) ?_
  refine va_get (D := D) (ci := 8) (v := .ref a_this_desk) (C := RX9) (T := TX9) (N := 5) hx hb htc inX9 hown hV.1 hR 0 rfl rfl 2 (by decide) (htc _ w_1_154) (fun _ h9 => h9) rfl dX9_wordsOf_7 ?_
  refine lv_iconst (v := 2) hx hb dX9_wordsOf_10 (by decide) ?_
  refine lv_iload_n hx hb dX9_wordsOf_11 rfl (lv_at hl 1 rfl) ?_
  refine lv_imul hx hb dX9_wordsOf_12 ?_
  refine lv_iconst (v := 0) hx hb dX9_wordsOf_13 (by decide) ?_
  refine lv_iload_n hx hb dX9_wordsOf_14 rfl (lv_at hl 2 rfl) ?_
  obtain ⟨r_15, hc_15, h⟩ := rk_bd h
  refine rk_l (wr := [(q_0, .inr (7, [.int 0, .int 0, .long 0, .int 0, .int 0]))]) (va_runVN (C := RX2) (As := [.int ((2 : Int32) * v_p1), .int (0 : Int32), .int v_p2]) (rest := [.int v_p2, .int v_p1, .ref q_0, .ref q_0]) hF (mtX2_wordEnds l D cI cJ cO PL _ a_this_desk a_this_desk_binomials a_this_desk_partitionCounts a_this_desk_treeCounts a_this_desk_sizes a_this_desk_starts a_this_desk_ranks a_this_desk_letters c_this_desk_binomials ((2 : Int32) * v_p1) (0 : Int32) v_p2 r_15 hc_15) ⟨va_cnB 3 htc (rk_gw w_2_52) rfl rfl rfl (hV.2.1 _ nw_2_91) (htc _ w_1_2) (by decide +kernel) ⟨(Nat.le_of_ble_eq_true rfl), (Nat.le_of_ble_eq_true rfl)⟩, htc _ w_2_51, htc _ ws_11⟩ (rk_preV (va_recv hV.1 hR (ci := 2) (q0 := 1) rfl rfl) (rk_preS hP hD hS hR hn hPL hnl hV [] [(false, 1), (false, 2)] rfl (by decide) rfl (by decide))) rfl rfl hl.1 rfl (lv_room (Nat.le_of_ble_eq_true rfl)) dX9_wordsOf_15 ⟨(Nat.le_of_ble_eq_true rfl), (Nat.le_of_ble_eq_true rfl)⟩) hP hD hS hA hR0 hn [] [0] rfl rfl (by decide) (by decide) (fun H locs hP hD hS hR => ?_)
  have hP : va_P D vwCl [(q_0, .inr (7, [.int 0, .int 0, .long 0, .int 0, .int 0]))] H := hP
  have hD : va_D A [(q_0, .inr (7, [.int 0, .int 0, .long 0, .int 0, .int 0]))] := hD
  obtain ⟨r_18, hc_18, h⟩ := rk_bd h
  refine rk_v (wr := []) (va_runIN (As := [.int v_p1, .int v_p2, .long r_15]) (rest := [.ref q_0]) hF (mtX8_init l D cI cJ cO PL _ q_0 v_p1 v_p2 r_15 r_18 hc_18) ⟨va_cnB 3 htc (rk_gw w_2_94) rfl rfl rfl (hV.2.1 _ nw_2_92) (htc _ w_1_11) (by decide +kernel) ⟨(Nat.le_of_ble_eq_true rfl), (Nat.le_of_ble_eq_true rfl)⟩, rfl, htc _ w_2_93⟩ (rk_preS hP hD hS hR hn hPL hnl hV [0] [] rfl (by decide) rfl (by decide)) rfl rfl hl.1 rfl (lv_room (Nat.le_of_ble_eq_true rfl)) dX9_wordsOf_18 ⟨(Nat.le_of_ble_eq_true rfl), (Nat.le_of_ble_eq_true rfl)⟩) hP hD hS hA hR0 hn [0] [] rfl rfl (by decide) (by decide) (fun H locs hP hD hS hR => ?_)
  have hP : va_P D vwCl [(q_0, .inr (7, [.int r_18.1, .int r_18.2.1, .long r_18.2.2.1, .int r_18.2.2.2.1, .int r_18.2.2.2.2]))] H := hP
  have hD : va_D A [(q_0, .inr (7, [.int r_18.1, .int r_18.2.1, .long r_18.2.2.1, .int r_18.2.2.2.1, .int r_18.2.2.2.2]))] := hD
  refine W.widen (k := 1) (n := 5) (Nat.le_of_ble_eq_true rfl) (Nat.le_of_ble_eq_true rfl) ?_
  exact hret ((2, r_18.1, r_18.2.1, r_18.2.2.1, r_18.2.2.2.1, r_18.2.2.2.2, 0, 0) : Fm) q_0 _ _ _ _ h dX9_wordsOf_21 hP hD hS
