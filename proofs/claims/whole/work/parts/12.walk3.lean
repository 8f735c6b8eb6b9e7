set_option maxHeartbeats 4000000 in
set_option maxRecDepth 100000 in
theorem mtX5_layPlain (l : Launch) (D : va_G) (cI cJ cO : ClassId) (PL : va_W) (sz : Nat) (a_p3 : Nat) (c_p3 : Nat → Int32) (a_this : Nat) (f_this_number : Int32) (f_this_width : Int32) (f_this_size : Int64) (f_this_order : Int32) (v_p1 : Int64) (r0 : (Nat → Int32)) (h : fX5_layPlain c_p3 f_this_width v_p1 = some r0) : Met l yX5_layPlain (rk_w yX5_layPlain cX5_layPlain 8 none) rmX5_layPlain (va_Pc [.ref a_this, .long v_p1, .ref a_p3] (rk_B D (rk_TY cI cJ cO) [(a_p3, .inl (cI, 60, .inl c_p3))] [(a_this, .inr (4, [.int f_this_number, .int f_this_width, .long f_this_size, .int f_this_order]))] PL sz)) (rk_Qv D [(a_p3, .inl (cI, 60, .inl r0))] [(a_p3, .inl (cI, 60, .inl c_p3))] sz) 0 0 (va_A [(a_p3, .inl (cI, 60, .inl c_p3))] sz) := by
  refine rk_metv h (fun x => [(a_p3, .inl (cI, 60, .inl x))]) (by decide) (Nat.le_of_ble_eq_true rfl) ?_
  intro p e s m args below meth c A ls Q hret hname hF hP hD hA hV hR0 hn hPL hnl hl h hS
  have hx := hF.1
  have hb := hF.2.1
  have hml := hF.2.2.1
  have hown : s.vm.findClass RX5 = some m.cls := hF.2.2.2.1
  have htc := hF.2.2.2.2
  have hP : va_P D vwCl [(a_p3, .inl (cI, 60, .inl c_p3))] s.heap := hP
  have hD : va_D A [(a_p3, .inl (cI, 60, .inl c_p3))] := hD
  have hR0 : va_P D vwCl [(a_this, .inr (4, [.int f_this_number, .int f_this_width, .long f_this_size, .int f_this_order]))] s.heap := hR0
  have hR := hR0
  have hl : lv_has ls 8 [(0, .ref a_this), (1, .long v_p1), (3, .ref a_p3)] := hl
  unfold fX5_layPlain at h
  refine lv_iconst (v := 0) hx hb dX5_layPlain_0 (by decide) ?_
  refine lv_istore (lv' := [(4, .int (0 : Int32)), (0, .ref a_this), (1, .long v_p1), (3, .ref a_p3)]) hx hb dX5_layPlain_1 hl (by decide) rfl (fun ls hl => ?_)
  have L3 : ∀ (n3 : Nat) (b3_l4 : Int32) (b3_c_p3 : Nat → Int32), rk_it2 (fX5_layPlain_L3 f_this_width v_p1) n3 b3_l4 b3_c_p3 = some r0 → ∀ (H : Heap) (locs : List Loc), va_P D vwCl [(a_p3, .inl (cI, 60, .inl b3_c_p3))] H → va_D A [(a_p3, .inl (cI, 60, .inl b3_c_p3))] → va_S A s.heap H locs → ∀ (ls : Array Slot), lv_has ls 8 [(0, .ref a_this), (1, .long v_p1), (3, .ref a_p3), (4, .int b3_l4)] → W p l e rmX5_layPlain s m args below meth c H locs 0 0 Q (F0 m 3 ls []) := by
    intro n3
    induction n3 with
    | zero => intro b3_l4 b3_c_p3 h; exact rk_no h
    | succ n3 ih3 =>
      intro b3_l4 b3_c_p3 h H locs hP hD hS ls hl
      have h : fX5_layPlain_L3 f_this_width v_p1 (rk_it2 (fX5_layPlain_L3 f_this_width v_p1) n3) b3_l4 b3_c_p3 = some r0 := h
      unfold fX5_layPlain_L3 at h
      have hR := rk_keep hR0 hn hS
      refine lv_iload hx hb dX5_layPlain_3 (lv_at hl 3 rfl) ?_
      refine lv_aload_n hx hb dX5_layPlain_5 rfl (lv_at hl 0 rfl) ?_
      refine va_get (D := D) (ci := 4) (v := .int f_this_width) (C := RX5) (T := TX5) (N := 4) hx hb htc inX5 hown hV.1 hR 0 rfl rfl 1 (by decide) (htc _ w_1_129) (fun _ h9 => u_same (htc _ w_1_130) _ h9) rfl dX5_layPlain_6 ?_
      refine lv_icmp_ge (tgt := 25) hx hb dX5_layPlain_9 (by decide) (fun hc1 => ?_) (fun hc1 => ?_)
      · have h := rk_if hc1 h
        refine lv_lload_n hx hb dX5_layPlain_25 rfl (lv_at hl 1 rfl) ?_
        refine lv_lstore (lv' := [(4, .long v_p1), (0, .ref a_this), (1, .long v_p1), (3, .ref a_p3)]) hx hb dX5_layPlain_26 hl (by decide) rfl (fun ls hl => ?_)
        refine lv_aload_n hx hb dX5_layPlain_28 rfl (lv_at hl 1 rfl) ?_
        refine va_get (D := D) (ci := 4) (v := .int f_this_width) (C := RX5) (T := TX5) (N := 4) hx hb htc inX5 hown hV.1 hR 0 rfl rfl 1 (by decide) (htc _ w_1_129) (fun _ h9 => u_same (htc _ w_1_130) _ h9) rfl dX5_layPlain_29 ?_
        refine lv_iconst (v := 1) hx hb dX5_layPlain_32 (by decide) ?_
        refine lv_isub hx hb dX5_layPlain_33 ?_
        refine lv_istore (lv' := [(6, .int (f_this_width - (1 : Int32))), (4, .long v_p1), (0, .ref a_this), (1, .long v_p1), (3, .ref a_p3)]) hx hb dX5_layPlain_34 hl (by decide) rfl (fun ls hl => ?_)
        have L36 : ∀ (n36 : Nat) (b36_l4 : Int64) (b36_l6 : Int32) (b36_c_p3 : Nat → Int32), rk_it3 (fX5_layPlain_L36 f_this_width) n36 b36_l4 b36_l6 b36_c_p3 = some r0 → ∀ (H : Heap) (locs : List Loc), va_P D vwCl [(a_p3, .inl (cI, 60, .inl b36_c_p3))] H → va_D A [(a_p3, .inl (cI, 60, .inl b36_c_p3))] → va_S A s.heap H locs → ∀ (ls : Array Slot), lv_has ls 8 [(0, .ref a_this), (3, .ref a_p3), (4, .long b36_l4), (6, .int b36_l6)] → W p l e rmX5_layPlain s m args below meth c H locs 0 0 Q (F0 m 36 ls []) := by
          intro n36
          induction n36 with
          | zero => intro b36_l4 b36_l6 b36_c_p3 h; exact rk_no h
          | succ n36 ih36 =>
            intro b36_l4 b36_l6 b36_c_p3 h H locs hP hD hS ls hl
            have h : fX5_layPlain_L36 f_this_width (rk_it3 (fX5_layPlain_L36 f_this_width) n36) b36_l4 b36_l6 b36_c_p3 = some r0 := h
            unfold fX5_layPlain_L36 at h
            have hR := rk_keep hR0 hn hS
            refine lv_iload hx hb dX5_layPlain_36 (lv_at hl 3 rfl) ?_
            refine lv_if_lt (tgt := 92) hx hb dX5_layPlain_38 (by decide) (fun hc2 => ?_) (fun hc2 => ?_)
            · have h := rk_if hc2 h
              exact hret b36_c_p3 _ _ _ _ h dX5_layPlain_92 hP hD hS
            · have h := rk_nif hc2 h
              refine lv_lload hx hb dX5_layPlain_41 (lv_at hl 2 rfl) ?_
              refine lv_iload hx hb dX5_layPlain_43 (lv_at hl 3 rfl) ?_
              refine lv_iconst (v := 1) hx hb dX5_layPlain_45 (by decide) ?_
              refine lv_iadd hx hb dX5_layPlain_46 ?_
              refine lv_i2l hx hb dX5_layPlain_47 rfl ?_
              obtain ⟨r_48, hc_48, h⟩ := rk_bd h
              refine rk_l (wr := [(a_p3, .inl (cI, 60, .inl b36_c_p3))]) (va_runSN (As := [.long b36_l4, .long (b36_l6 + (1 : Int32)).toInt64]) (rest := []) hF (mtX9_remainder l D cI cJ cO PL _ b36_l4 ((b36_l6 + (1 : Int32)).toInt64) r_48 hc_48) ⟨va_cnB 2 htc (rk_gw w_1_228) rfl rfl rfl (hV.2.1 _ nw_1_226) (htc _ w_1_1) (by decide +kernel) ⟨(Nat.le_of_ble_eq_true rfl), (Nat.le_of_ble_eq_true rfl)⟩, htc _ w_1_227, trivial⟩ (rk_preS hP hD hS hR hn hPL hnl hV [] [] rfl (by decide) rfl (by decide)) rfl rfl hl.1 rfl (lv_room (Nat.le_of_ble_eq_true rfl)) dX5_layPlain_48 ⟨(Nat.le_of_ble_eq_true rfl), (Nat.le_of_ble_eq_true rfl)⟩) hP hD hS hA hR0 hn [] [0] rfl rfl (by decide) (by decide) (fun H locs hP hD hS hR => ?_)
              have hP : va_P D vwCl [(a_p3, .inl (cI, 60, .inl b36_c_p3))] H := hP
              have hD : va_D A [(a_p3, .inl (cI, 60, .inl b36_c_p3))] := hD
              refine lv_l2i hx hb dX5_layPlain_51 rfl ?_
              refine lv_istore (lv' := [(7, .int r_48.toInt32), (0, .ref a_this), (3, .ref a_p3), (4, .long b36_l4), (6, .int b36_l6)]) hx hb dX5_layPlain_52 hl (by decide) rfl (fun ls hl => ?_)
              refine lv_lload hx hb dX5_layPlain_54 (lv_at hl 3 rfl) ?_
              refine lv_iload hx hb dX5_layPlain_56 (lv_at hl 4 rfl) ?_
              refine lv_iconst (v := 1) hx hb dX5_layPlain_58 (by decide) ?_
              refine lv_iadd hx hb dX5_layPlain_59 ?_
              refine lv_i2l hx hb dX5_layPlain_60 rfl ?_
              obtain ⟨r_61, hc_61, h⟩ := rk_bd h
              refine rk_l (wr := [(a_p3, .inl (cI, 60, .inl b36_c_p3))]) (va_runSN (As := [.long b36_l4, .long (b36_l6 + (1 : Int32)).toInt64]) (rest := []) hF (mtX9_quotient l D cI cJ cO PL _ b36_l4 ((b36_l6 + (1 : Int32)).toInt64) r_61 hc_61) ⟨va_cnB 2 htc (rk_gw w_1_231) rfl rfl rfl (hV.2.1 _ nw_1_229) (htc _ w_1_1) (by decide +kernel) ⟨(Nat.le_of_ble_eq_true rfl), (Nat.le_of_ble_eq_true rfl)⟩, htc _ w_1_230, trivial⟩ (rk_preS hP hD hS hR hn hPL hnl hV [] [] rfl (by decide) rfl (by decide)) rfl rfl hl.1 rfl (lv_room (Nat.le_of_ble_eq_true rfl)) dX5_layPlain_61 ⟨(Nat.le_of_ble_eq_true rfl), (Nat.le_of_ble_eq_true rfl)⟩) hP hD hS hA hR0 hn [] [0] rfl rfl (by decide) (by decide) (fun H locs hP hD hS hR => ?_)
              have hP : va_P D vwCl [(a_p3, .inl (cI, 60, .inl b36_c_p3))] H := hP
              have hD : va_D A [(a_p3, .inl (cI, 60, .inl b36_c_p3))] := hD
              refine lv_lstore (lv' := [(4, .long r_61), (7, .int r_48.toInt32), (0, .ref a_this), (3, .ref a_p3), (6, .int b36_l6)]) hx hb dX5_layPlain_64 hl (by decide) rfl (fun ls hl => ?_)
              refine lv_aload_n hx hb dX5_layPlain_66 rfl (lv_at hl 3 rfl) ?_
              refine lv_aload_n hx hb dX5_layPlain_67 rfl (lv_at hl 2 rfl) ?_
              refine lv_aload_n hx hb dX5_layPlain_68 rfl (lv_at hl 3 rfl) ?_
              refine lv_lload hx hb dX5_layPlain_69 (lv_at hl 0 rfl) ?_
              refine lv_iload hx hb dX5_layPlain_71 (lv_at hl 4 rfl) ?_
              refine lv_iload hx hb dX5_layPlain_73 (lv_at hl 1 rfl) ?_
              obtain ⟨r_75, hc_75, h⟩ := rk_bd h
              refine rk_i (wr := [(a_p3, .inl (cI, 60, .inl b36_c_p3))]) (va_runS (As := [.long r_61, .int b36_l6, .int r_48.toInt32]) (rest := [.ref a_p3, .ref a_this, .ref a_p3]) hF (mtX5_plainTurn l D cI cJ cO PL _ r_61 b36_l6 r_48.toInt32 r_75 hc_75) (va_cwS 3 htc (rk_gVS w_1_232 w_1_233 w_1_9 w_1_234) rfl rfl rfl (by decide +kernel) ⟨(Nat.le_of_ble_eq_true rfl), (Nat.le_of_ble_eq_true rfl)⟩) (rk_preS hP hD hS hR hn hPL hnl hV [] [] rfl (by decide) rfl (by decide)) rfl rfl hl.1 rfl (lv_room (Nat.le_of_ble_eq_true rfl)) dX5_layPlain_75 ⟨(Nat.le_of_ble_eq_true rfl), (Nat.le_of_ble_eq_true rfl)⟩) hP hD hS hA hR0 hn [] [0] rfl rfl (by decide) (by decide) (fun H locs hP hD hS hR => ?_)
              have hP : va_P D vwCl [(a_p3, .inl (cI, 60, .inl b36_c_p3))] H := hP
              have hD : va_D A [(a_p3, .inl (cI, 60, .inl b36_c_p3))] := hD
              obtain ⟨r_78, hc_78, h⟩ := rk_bd h
              refine rk_i (wr := [(a_p3, .inl (cI, 60, .inl b36_c_p3))]) (va_runV (C := RX5) (As := [.ref a_p3, .int r_75]) (rest := [.ref a_p3]) hF (mtX5_freePlace l D cI cJ cO PL _ a_this f_this_number f_this_width f_this_size f_this_order a_p3 b36_c_p3 r_75 r_78 hc_78) (cwV 2 htc (rk_gV w_1_235 w_1_237 ws_6 w_1_9 w_1_238) rfl rfl rfl (by decide +kernel) ⟨(Nat.le_of_ble_eq_true rfl), (Nat.le_of_ble_eq_true rfl)⟩) (rk_preV (va_recv hV.1 hR (ci := 4) (q0 := 0) rfl rfl) (rk_preS hP hD hS hR hn hPL hnl hV [] [(false, 0), (true, 0)] rfl (by decide) rfl (by decide))) rfl rfl hl.1 rfl (lv_room (Nat.le_of_ble_eq_true rfl)) dX5_layPlain_78 ⟨(Nat.le_of_ble_eq_true rfl), (Nat.le_of_ble_eq_true rfl)⟩) hP hD hS hA hR0 hn [] [0] rfl rfl (by decide) (by decide) (fun H locs hP hD hS hR => ?_)
              have hP : va_P D vwCl [(a_p3, .inl (cI, 60, .inl b36_c_p3))] H := hP
              have hD : va_D A [(a_p3, .inl (cI, 60, .inl b36_c_p3))] := hD
              refine lv_iload hx hb dX5_layPlain_81 (lv_at hl 4 rfl) ?_
              obtain ⟨r_83, hc_83, h⟩ := rk_bd h
              refine rk_v (wr := []) (va_runSN (As := [.ref a_p3, .int r_78, .int b36_l6]) (rest := []) hF (mtX9_set l D cI cJ cO PL _ a_p3 60 b36_c_p3 r_78 b36_l6 r_83 hc_83) ⟨va_cnB 3 htc (rk_gw w_1_46) rfl rfl rfl (hV.2.1 _ nw_1_225) (htc _ w_1_1) (by decide +kernel) ⟨(Nat.le_of_ble_eq_true rfl), (Nat.le_of_ble_eq_true rfl)⟩, htc _ w_1_45, trivial⟩ (rk_preS hP hD hS hR hn hPL hnl hV [0] [] rfl (by decide) rfl (by decide)) rfl rfl hl.1 rfl (lv_room (Nat.le_of_ble_eq_true rfl)) dX5_layPlain_83 ⟨(Nat.le_of_ble_eq_true rfl), (Nat.le_of_ble_eq_true rfl)⟩) hP hD hS hA hR0 hn [0] [] rfl rfl (by decide) (by decide) (fun H locs hP hD hS hR => ?_)
              have hP : va_P D vwCl [(a_p3, .inl (cI, 60, .inl r_83))] H := hP
              have hD : va_D A [(a_p3, .inl (cI, 60, .inl r_83))] := hD
              refine lv_iinc (v := (b36_l6 + (-1))) (lv' := [(6, .int (b36_l6 + (-1))), (4, .long r_61), (7, .int r_48.toInt32), (0, .ref a_this), (3, .ref a_p3)]) hx hb dX5_layPlain_86 hl (k := 4) rfl rfl (by decide) rfl (fun ls hl => ?_)
              refine lv_goto (tgt := 36) hx hb dX5_layPlain_89 (by decide) ?_
              exact ih36 r_61 (b36_l6 + (-1)) r_83 h _ _ hP hD hS _ (lv_sub hl [3, 4, 1, 0] rfl)
        exact L36 FU v_p1 (f_this_width - (1 : Int32)) b3_c_p3 h _ _ hP hD hS _ (lv_sub hl [2, 4, 1, 0] rfl)
      · have h := rk_nif hc1 h
        refine lv_aload_n hx hb dX5_layPlain_12 rfl (lv_at hl 2 rfl) ?_
        refine lv_iload hx hb dX5_layPlain_13 (lv_at hl 3 rfl) ?_
        refine lv_iconst (v := (-1)) hx hb dX5_layPlain_15 (by decide) ?_
        obtain ⟨r_16, hc_16, h⟩ := rk_bd h
        refine rk_v (wr := []) (va_runSN (As := [.ref a_p3, .int b3_l4, .int (-1 : Int32)]) (rest := []) hF (mtX9_set l D cI cJ cO PL _ a_p3 60 b3_c_p3 b3_l4 (-1 : Int32) r_16 hc_16) ⟨va_cnB 3 htc (rk_gw w_1_46) rfl rfl rfl (hV.2.1 _ nw_1_225) (htc _ w_1_1) (by decide +kernel) ⟨(Nat.le_of_ble_eq_true rfl), (Nat.le_of_ble_eq_true rfl)⟩, htc _ w_1_45, trivial⟩ (rk_preS hP hD hS hR hn hPL hnl hV [0] [] rfl (by decide) rfl (by decide)) rfl rfl hl.1 rfl (lv_room (Nat.le_of_ble_eq_true rfl)) dX5_layPlain_16 ⟨(Nat.le_of_ble_eq_true rfl), (Nat.le_of_ble_eq_true rfl)⟩) hP hD hS hA hR0 hn [0] [] rfl rfl (by decide) (by decide) (fun H locs hP hD hS hR => ?_)
        have hP : va_P D vwCl [(a_p3, .inl (cI, 60, .inl r_16))] H := hP
        have hD : va_D A [(a_p3, .inl (cI, 60, .inl r_16))] := hD
        refine lv_iinc (v := (b3_l4 + 1)) (lv' := [(4, .int (b3_l4 + 1)), (0, .ref a_this), (1, .long v_p1), (3, .ref a_p3)]) hx hb dX5_layPlain_19 hl (k := 3) rfl rfl (by decide) rfl (fun ls hl => ?_)
        refine lv_goto (tgt := 3) hx hb dX5_layPlain_22 (by decide) ?_
        exact ih3 (b3_l4 + 1) r_16 h _ _ hP hD hS _ (lv_sub hl [1, 2, 3, 0] rfl)
  exact L3 FU (0 : Int32) c_p3 h _ _ hP hD hS _ (lv_sub hl [1, 2, 3, 0] rfl)
set_option maxHeartbeats 4000000 in
set_option maxRecDepth 100000 in
theorem mtX5_lay (l : Launch) (D : va_G) (cI cJ cO : ClassId) (PL : va_W) (sz : Nat) (a_p3 : Nat) (c_p3 : Nat → Int32) (a_this : Nat) (f_this_number : Int32) (f_this_width : Int32) (f_this_size : Int64) (f_this_order : Int32) (a_p4 : Nat) (a_p4_binomials : Nat) (a_p4_partitionCounts : Nat) (a_p4_treeCounts : Nat) (a_p4_sizes : Nat) (a_p4_starts : Nat) (a_p4_ranks : Nat) (a_p4_letters : Nat) (c_p4_letters : Nat → Int32) (c_p4_ranks : Nat → Int64) (c_p4_sizes : Nat → Int32) (c_p4_binomials : Nat → Int64) (c_p4_partitionCounts : Nat → Int32) (c_p4_treeCounts : Nat → Int64) (v_p1 : Int64) (r0 : (Nat → Int32) × (Nat → Int32) × (Nat → Int64) × (Nat → Int32)) (h : fX5_lay c_p3 f_this_width f_this_order c_p4_letters c_p4_ranks c_p4_sizes v_p1 = some r0) : Met l yX5_lay (rk_w yX5_lay cX5_lay 5 none) rmX5_lay (va_Pc [.ref a_this, .long v_p1, .ref a_p3, .ref a_p4] (rk_B D (rk_TY cI cJ cO) [(a_p3, .inl (cI, 60, .inl c_p3)), (a_p4_letters, .inl (cI, 4, .inl c_p4_letters)), (a_p4_ranks, .inl (cJ, 60, .inr (.inl c_p4_ranks))), (a_p4_sizes, .inl (cI, 60, .inl c_p4_sizes))] [(a_this, .inr (4, [.int f_this_number, .int f_this_width, .long f_this_size, .int f_this_order])), (a_p4, .inr (2, [.ref a_p4_binomials, .ref a_p4_partitionCounts, .ref a_p4_treeCounts, .ref a_p4_sizes, .ref a_p4_starts, .ref a_p4_ranks, .ref a_p4_letters])), (a_p4_binomials, .inl (cJ, 1891, .inr (.inl c_p4_binomials))), (a_p4_partitionCounts, .inl (cI, 1891, .inl c_p4_partitionCounts)), (a_p4_treeCounts, .inl (cJ, 31, .inr (.inl c_p4_treeCounts)))] PL sz)) (rk_Qv D [(a_p3, .inl (cI, 60, .inl r0.1)), (a_p4_letters, .inl (cI, 4, .inl r0.2.1)), (a_p4_ranks, .inl (cJ, 60, .inr (.inl r0.2.2.1))), (a_p4_sizes, .inl (cI, 60, .inl r0.2.2.2))] [(a_p3, .inl (cI, 60, .inl c_p3)), (a_p4_letters, .inl (cI, 4, .inl c_p4_letters)), (a_p4_ranks, .inl (cJ, 60, .inr (.inl c_p4_ranks))), (a_p4_sizes, .inl (cI, 60, .inl c_p4_sizes))] sz) 0 0 (va_A [(a_p3, .inl (cI, 60, .inl c_p3)), (a_p4_letters, .inl (cI, 4, .inl c_p4_letters)), (a_p4_ranks, .inl (cJ, 60, .inr (.inl c_p4_ranks))), (a_p4_sizes, .inl (cI, 60, .inl c_p4_sizes))] sz) := by
  refine rk_metv h (fun x => [(a_p3, .inl (cI, 60, .inl x.1)), (a_p4_letters, .inl (cI, 4, .inl x.2.1)), (a_p4_ranks, .inl (cJ, 60, .inr (.inl x.2.2.1))), (a_p4_sizes, .inl (cI, 60, .inl x.2.2.2))]) (by decide) (Nat.le_of_ble_eq_true rfl) ?_
  intro p e s m args below meth c A ls Q hret hname hF hP hD hA hV hR0 hn hPL hnl hl h hS
  have hx := hF.1
  have hb := hF.2.1
  have hml := hF.2.2.1
  have hown : s.vm.findClass RX5 = some m.cls := hF.2.2.2.1
  have htc := hF.2.2.2.2
  have hP : va_P D vwCl [(a_p3, .inl (cI, 60, .inl c_p3)), (a_p4_letters, .inl (cI, 4, .inl c_p4_letters)), (a_p4_ranks, .inl (cJ, 60, .inr (.inl c_p4_ranks))), (a_p4_sizes, .inl (cI, 60, .inl c_p4_sizes))] s.heap := hP
  have hD : va_D A [(a_p3, .inl (cI, 60, .inl c_p3)), (a_p4_letters, .inl (cI, 4, .inl c_p4_letters)), (a_p4_ranks, .inl (cJ, 60, .inr (.inl c_p4_ranks))), (a_p4_sizes, .inl (cI, 60, .inl c_p4_sizes))] := hD
  have hR0 : va_P D vwCl [(a_this, .inr (4, [.int f_this_number, .int f_this_width, .long f_this_size, .int f_this_order])), (a_p4, .inr (2, [.ref a_p4_binomials, .ref a_p4_partitionCounts, .ref a_p4_treeCounts, .ref a_p4_sizes, .ref a_p4_starts, .ref a_p4_ranks, .ref a_p4_letters])), (a_p4_binomials, .inl (cJ, 1891, .inr (.inl c_p4_binomials))), (a_p4_partitionCounts, .inl (cI, 1891, .inl c_p4_partitionCounts)), (a_p4_treeCounts, .inl (cJ, 31, .inr (.inl c_p4_treeCounts)))] s.heap := hR0
  have hR := hR0
  have hl : lv_has ls 5 [(0, .ref a_this), (1, .long v_p1), (3, .ref a_p3), (4, .ref a_p4)] := hl
  unfold fX5_lay at h
  refine lv_aload_n hx hb dX5_lay_0 rfl (lv_at hl 0 rfl) ?_
  refine va_get (D := D) (ci := 4) (v := .int f_this_order) (C := RX5) (T := TX5) (N := 4) hx hb htc inX5 hown hV.1 hR 0 rfl rfl 3 (by decide) (htc _ w_2_75) (fun _ h9 => h9) rfl dX5_lay_1 ?_
  refine lv_iconst (v := 1) hx hb dX5_lay_4 (by decide) ?_
  refine lv_icmp_ne (tgt := 17) hx hb dX5_lay_5 (by decide) (fun hc1 => ?_) (fun hc1 => ?_)
  · have h := rk_if hc1 h
    refine lv_aload_n hx hb dX5_lay_17 rfl (lv_at hl 0 rfl) ?_
    refine lv_lload_n hx hb dX5_lay_18 rfl (lv_at hl 1 rfl) ?_
    refine lv_aload_n hx hb dX5_lay_19 rfl (lv_at hl 2 rfl) ?_
    obtain ⟨r_20, hc_20, h⟩ := rk_bd h
    refine rk_v (wr := [(a_p4_letters, .inl (cI, 4, .inl c_p4_letters)), (a_p4_ranks, .inl (cJ, 60, .inr (.inl c_p4_ranks))), (a_p4_sizes, .inl (cI, 60, .inl c_p4_sizes))]) (va_runV (C := RX5) (As := [.long v_p1, .ref a_p3]) (rest := []) hF (mtX5_layLexicographic l D cI cJ cO PL _ a_p3 c_p3 a_this f_this_number f_this_width f_this_size f_this_order v_p1 r_20 hc_20) (cwV 2 htc (rk_gV w_2_0 w_2_2 ws_7 w_1_9 w_2_3) rfl rfl rfl (by decide +kernel) ⟨(Nat.le_of_ble_eq_true rfl), (Nat.le_of_ble_eq_true rfl)⟩) (rk_preV (va_recv hV.1 hR (ci := 4) (q0 := 0) rfl rfl) (rk_preS hP hD hS hR hn hPL hnl hV [0] [(false, 0)] rfl (by decide) rfl (by decide))) rfl rfl hl.1 rfl (lv_room (Nat.le_of_ble_eq_true rfl)) dX5_lay_20 ⟨(Nat.le_of_ble_eq_true rfl), (Nat.le_of_ble_eq_true rfl)⟩) hP hD hS hA hR0 hn [0] [1, 2, 3] rfl rfl (by decide) (by decide) (fun H locs hP hD hS hR => ?_)
    have hP : va_P D vwCl [(a_p4_letters, .inl (cI, 4, .inl c_p4_letters)), (a_p4_ranks, .inl (cJ, 60, .inr (.inl c_p4_ranks))), (a_p4_sizes, .inl (cI, 60, .inl c_p4_sizes)), (a_p3, .inl (cI, 60, .inl r_20))] H := hP
    have hD : va_D A [(a_p4_letters, .inl (cI, 4, .inl c_p4_letters)), (a_p4_ranks, .inl (cJ, 60, .inr (.inl c_p4_ranks))), (a_p4_sizes, .inl (cI, 60, .inl c_p4_sizes)), (a_p3, .inl (cI, 60, .inl r_20))] := hD
    exact hret (r_20, c_p4_letters, c_p4_ranks, c_p4_sizes) _ _ _ _ h dX5_lay_23 (hP.sub [3, 0, 1, 2] rfl) (hD.sub [3, 0, 1, 2] (by decide) rfl) hS
  · have h := rk_nnif hc1 h
    refine lv_aload_n hx hb dX5_lay_8 rfl (lv_at hl 0 rfl) ?_
    refine lv_lload_n hx hb dX5_lay_9 rfl (lv_at hl 1 rfl) ?_
    refine lv_aload_n hx hb dX5_lay_10 rfl (lv_at hl 2 rfl) ?_
    obtain ⟨r_11, hc_11, h⟩ := rk_bd h
    refine rk_v (wr := [(a_p4_letters, .inl (cI, 4, .inl c_p4_letters)), (a_p4_ranks, .inl (cJ, 60, .inr (.inl c_p4_ranks))), (a_p4_sizes, .inl (cI, 60, .inl c_p4_sizes))]) (va_runV (C := RX5) (As := [.long v_p1, .ref a_p3]) (rest := []) hF (mtX5_layPlain l D cI cJ cO PL _ a_p3 c_p3 a_this f_this_number f_this_width f_this_size f_this_order v_p1 r_11 hc_11) (cwV 2 htc (rk_gV w_1_220 w_1_222 ws_5 w_1_9 w_1_224) rfl rfl rfl (by decide +kernel) ⟨(Nat.le_of_ble_eq_true rfl), (Nat.le_of_ble_eq_true rfl)⟩) (rk_preV (va_recv hV.1 hR (ci := 4) (q0 := 0) rfl rfl) (rk_preS hP hD hS hR hn hPL hnl hV [0] [(false, 0)] rfl (by decide) rfl (by decide))) rfl rfl hl.1 rfl (lv_room (Nat.le_of_ble_eq_true rfl)) dX5_lay_11 ⟨(Nat.le_of_ble_eq_true rfl), (Nat.le_of_ble_eq_true rfl)⟩) hP hD hS hA hR0 hn [0] [1, 2, 3] rfl rfl (by decide) (by decide) (fun H locs hP hD hS hR => ?_)
    have hP : va_P D vwCl [(a_p4_letters, .inl (cI, 4, .inl c_p4_letters)), (a_p4_ranks, .inl (cJ, 60, .inr (.inl c_p4_ranks))), (a_p4_sizes, .inl (cI, 60, .inl c_p4_sizes)), (a_p3, .inl (cI, 60, .inl r_11))] H := hP
    have hD : va_D A [(a_p4_letters, .inl (cI, 4, .inl c_p4_letters)), (a_p4_ranks, .inl (cJ, 60, .inr (.inl c_p4_ranks))), (a_p4_sizes, .inl (cI, 60, .inl c_p4_sizes)), (a_p3, .inl (cI, 60, .inl r_11))] := hD
    refine lv_goto (tgt := 23) hx hb dX5_lay_14 (by decide) ?_
    exact hret (r_11, c_p4_letters, c_p4_ranks, c_p4_sizes) _ _ _ _ h dX5_lay_23 (hP.sub [3, 0, 1, 2] rfl) (hD.sub [3, 0, 1, 2] (by decide) rfl) hS
set_option maxHeartbeats 4000000 in
set_option maxRecDepth 100000 in
theorem mtX5_turn (l : Launch) (D : va_G) (cI cJ cO : ClassId) (PL : va_W) (sz : Nat) (a_p2 : Nat) (c_p2 : Nat → Int32) (a_this : Nat) (f_this_number : Int32) (f_this_width : Int32) (f_this_size : Int64) (f_this_order : Int32) (a_p1 : Nat) (c_p1 : Nat → Int32) (a_p3 : Nat) (a_p3_binomials : Nat) (a_p3_partitionCounts : Nat) (a_p3_treeCounts : Nat) (a_p3_sizes : Nat) (a_p3_starts : Nat) (a_p3_ranks : Nat) (a_p3_letters : Nat) (c_p3_sizes : Nat → Int32) (c_p3_starts : Nat → Int32) (r0 : (Nat → Int32) × (Nat → Int32) × (Nat → Int32)) (h : fX5_turn c_p2 f_this_width c_p1 c_p3_sizes c_p3_starts = some r0) : Met l yX5_turn (rk_w yX5_turn cX5_turn 5 none) rmX5_turn (va_Pc [.ref a_this, .ref a_p1, .ref a_p2, .ref a_p3] (rk_B D (rk_TY cI cJ cO) [(a_p2, .inl (cI, 60, .inl c_p2)), (a_p3_sizes, .inl (cI, 60, .inl c_p3_sizes)), (a_p3_starts, .inl (cI, 60, .inl c_p3_starts))] [(a_this, .inr (4, [.int f_this_number, .int f_this_width, .long f_this_size, .int f_this_order])), (a_p1, .inl (cI, 60, .inl c_p1)), (a_p3, .inr (2, [.ref a_p3_binomials, .ref a_p3_partitionCounts, .ref a_p3_treeCounts, .ref a_p3_sizes, .ref a_p3_starts, .ref a_p3_ranks, .ref a_p3_letters]))] PL sz)) (rk_Qv D [(a_p2, .inl (cI, 60, .inl r0.1)), (a_p3_sizes, .inl (cI, 60, .inl r0.2.1)), (a_p3_starts, .inl (cI, 60, .inl r0.2.2))] [(a_p2, .inl (cI, 60, .inl c_p2)), (a_p3_sizes, .inl (cI, 60, .inl c_p3_sizes)), (a_p3_starts, .inl (cI, 60, .inl c_p3_starts))] sz) 0 0 (va_A [(a_p2, .inl (cI, 60, .inl c_p2)), (a_p3_sizes, .inl (cI, 60, .inl c_p3_sizes)), (a_p3_starts, .inl (cI, 60, .inl c_p3_starts))] sz) := by
  refine rk_metv h (fun x => [(a_p2, .inl (cI, 60, .inl x.1)), (a_p3_sizes, .inl (cI, 60, .inl x.2.1)), (a_p3_starts, .inl (cI, 60, .inl x.2.2))]) (by decide) (Nat.le_of_ble_eq_true rfl) ?_
  intro p e s m args below meth c A ls Q hret hname hF hP hD hA hV hR0 hn hPL hnl hl h hS
  have hx := hF.1
  have hb := hF.2.1
  have hml := hF.2.2.1
  have hown : s.vm.findClass RX5 = some m.cls := hF.2.2.2.1
  have htc := hF.2.2.2.2
  have hP : va_P D vwCl [(a_p2, .inl (cI, 60, .inl c_p2)), (a_p3_sizes, .inl (cI, 60, .inl c_p3_sizes)), (a_p3_starts, .inl (cI, 60, .inl c_p3_starts))] s.heap := hP
  have hD : va_D A [(a_p2, .inl (cI, 60, .inl c_p2)), (a_p3_sizes, .inl (cI, 60, .inl c_p3_sizes)), (a_p3_starts, .inl (cI, 60, .inl c_p3_starts))] := hD
  have hR0 : va_P D vwCl [(a_this, .inr (4, [.int f_this_number, .int f_this_width, .long f_this_size, .int f_this_order])), (a_p1, .inl (cI, 60, .inl c_p1)), (a_p3, .inr (2, [.ref a_p3_binomials, .ref a_p3_partitionCounts, .ref a_p3_treeCounts, .ref a_p3_sizes, .ref a_p3_starts, .ref a_p3_ranks, .ref a_p3_letters]))] s.heap := hR0
  have hR := hR0
  have hl : lv_has ls 5 [(0, .ref a_this), (1, .ref a_p1), (2, .ref a_p2), (3, .ref a_p3)] := hl
  unfold fX5_turn at h
  refine lv_iconst (v := 0) hx hb dX5_turn_0 (by decide) ?_
  refine lv_istore (lv' := [(4, .int (0 : Int32)), (0, .ref a_this), (1, .ref a_p1), (2, .ref a_p2), (3, .ref a_p3)]) hx hb dX5_turn_1 hl (by decide) rfl (fun ls hl => ?_)
  have L3 : ∀ (n3 : Nat) (b3_l4 : Int32) (b3_c_p2 : Nat → Int32), rk_it2 (fX5_turn_L3 f_this_width c_p1 c_p3_sizes c_p3_starts) n3 b3_l4 b3_c_p2 = some r0 → ∀ (H : Heap) (locs : List Loc), va_P D vwCl [(a_p2, .inl (cI, 60, .inl b3_c_p2)), (a_p3_sizes, .inl (cI, 60, .inl c_p3_sizes)), (a_p3_starts, .inl (cI, 60, .inl c_p3_starts))] H → va_D A [(a_p2, .inl (cI, 60, .inl b3_c_p2)), (a_p3_sizes, .inl (cI, 60, .inl c_p3_sizes)), (a_p3_starts, .inl (cI, 60, .inl c_p3_starts))] → va_S A s.heap H locs → ∀ (ls : Array Slot), lv_has ls 5 [(0, .ref a_this), (1, .ref a_p1), (2, .ref a_p2), (4, .int b3_l4)] → W p l e rmX5_turn s m args below meth c H locs 0 0 Q (F0 m 3 ls []) := by
    intro n3
    induction n3 with
    | zero => intro b3_l4 b3_c_p2 h; exact rk_no h
    | succ n3 ih3 =>
      intro b3_l4 b3_c_p2 h H locs hP hD hS ls hl
      have h : fX5_turn_L3 f_this_width c_p1 c_p3_sizes c_p3_starts (rk_it2 (fX5_turn_L3 f_this_width c_p1 c_p3_sizes c_p3_starts) n3) b3_l4 b3_c_p2 = some r0 := h
      unfold fX5_turn_L3 at h
      have hR := rk_keep hR0 hn hS
      refine lv_iload hx hb dX5_turn_3 (lv_at hl 3 rfl) ?_
      refine lv_aload_n hx hb dX5_turn_5 rfl (lv_at hl 0 rfl) ?_
      refine va_get (D := D) (ci := 4) (v := .int f_this_width) (C := RX5) (T := TX5) (N := 4) hx hb htc inX5 hown hV.1 hR 0 rfl rfl 1 (by decide) (htc _ w_1_129) (fun _ h9 => u_same (htc _ w_1_130) _ h9) rfl dX5_turn_6 ?_
      refine lv_icmp_ge (tgt := 30) hx hb dX5_turn_9 (by decide) (fun hc1 => ?_) (fun hc1 => ?_)
      · have h := rk_if hc1 h
        exact hret (b3_c_p2, c_p3_sizes, c_p3_starts) _ _ _ _ h dX5_turn_30 hP hD hS
      · have h := rk_nif hc1 h
        refine lv_aload_n hx hb dX5_turn_12 rfl (lv_at hl 2 rfl) ?_
        refine lv_aload_n hx hb dX5_turn_13 rfl (lv_at hl 1 rfl) ?_
        refine lv_iload hx hb dX5_turn_14 (lv_at hl 3 rfl) ?_
        obtain ⟨r_16, hc_16, h⟩ := rk_bd h
        refine rk_i (wr := [(a_p2, .inl (cI, 60, .inl b3_c_p2)), (a_p3_sizes, .inl (cI, 60, .inl c_p3_sizes)), (a_p3_starts, .inl (cI, 60, .inl c_p3_starts))]) (va_runSN (As := [.ref a_p1, .int b3_l4]) (rest := [.ref a_p2]) hF (mtX9_at l D cI cJ cO PL _ a_p1 60 c_p1 b3_l4 r_16 hc_16) ⟨va_cnB 2 htc (rk_gw w_1_52) rfl rfl rfl (hV.2.1 _ nw_1_239) (htc _ w_1_1) (by decide +kernel) ⟨(Nat.le_of_ble_eq_true rfl), (Nat.le_of_ble_eq_true rfl)⟩, htc _ w_1_51, trivial⟩ (rk_preS hP hD hS hR hn hPL hnl hV [] [(false, 1)] rfl (by decide) rfl (by decide)) rfl rfl hl.1 rfl (lv_room (Nat.le_of_ble_eq_true rfl)) dX5_turn_16 ⟨(Nat.le_of_ble_eq_true rfl), (Nat.le_of_ble_eq_true rfl)⟩) hP hD hS hA hR0 hn [] [0, 1, 2] rfl rfl (by decide) (by decide) (fun H locs hP hD hS hR => ?_)
        have hP : va_P D vwCl [(a_p2, .inl (cI, 60, .inl b3_c_p2)), (a_p3_sizes, .inl (cI, 60, .inl c_p3_sizes)), (a_p3_starts, .inl (cI, 60, .inl c_p3_starts))] H := hP
        have hD : va_D A [(a_p2, .inl (cI, 60, .inl b3_c_p2)), (a_p3_sizes, .inl (cI, 60, .inl c_p3_sizes)), (a_p3_starts, .inl (cI, 60, .inl c_p3_starts))] := hD
        refine lv_iload hx hb dX5_turn_19 (lv_at hl 3 rfl) ?_
        obtain ⟨r_21, hc_21, h⟩ := rk_bd h
        refine rk_v (wr := [(a_p3_sizes, .inl (cI, 60, .inl c_p3_sizes)), (a_p3_starts, .inl (cI, 60, .inl c_p3_starts))]) (va_runSN (As := [.ref a_p2, .int r_16, .int b3_l4]) (rest := []) hF (mtX9_set l D cI cJ cO PL _ a_p2 60 b3_c_p2 r_16 b3_l4 r_21 hc_21) ⟨va_cnB 3 htc (rk_gw w_1_46) rfl rfl rfl (hV.2.1 _ nw_1_225) (htc _ w_1_1) (by decide +kernel) ⟨(Nat.le_of_ble_eq_true rfl), (Nat.le_of_ble_eq_true rfl)⟩, htc _ w_1_45, trivial⟩ (rk_preS hP hD hS hR hn hPL hnl hV [0] [] rfl (by decide) rfl (by decide)) rfl rfl hl.1 rfl (lv_room (Nat.le_of_ble_eq_true rfl)) dX5_turn_21 ⟨(Nat.le_of_ble_eq_true rfl), (Nat.le_of_ble_eq_true rfl)⟩) hP hD hS hA hR0 hn [0] [1, 2] rfl rfl (by decide) (by decide) (fun H locs hP hD hS hR => ?_)
        have hP : va_P D vwCl [(a_p3_sizes, .inl (cI, 60, .inl c_p3_sizes)), (a_p3_starts, .inl (cI, 60, .inl c_p3_starts)), (a_p2, .inl (cI, 60, .inl r_21))] H := hP
        have hD : va_D A [(a_p3_sizes, .inl (cI, 60, .inl c_p3_sizes)), (a_p3_starts, .inl (cI, 60, .inl c_p3_starts)), (a_p2, .inl (cI, 60, .inl r_21))] := hD
        refine lv_iinc (v := (b3_l4 + 1)) (lv' := [(4, .int (b3_l4 + 1)), (0, .ref a_this), (1, .ref a_p1), (2, .ref a_p2)]) hx hb dX5_turn_24 hl (k := 3) rfl rfl (by decide) rfl (fun ls hl => ?_)
        refine lv_goto (tgt := 3) hx hb dX5_turn_27 (by decide) ?_
        exact ih3 (b3_l4 + 1) r_21 h _ _ (hP.sub [2, 0, 1] rfl) (hD.sub [2, 0, 1] (by decide) rfl) hS _ (lv_sub hl [1, 2, 3, 0] rfl)
  exact L3 FU (0 : Int32) c_p2 h _ _ hP hD hS _ (lv_sub hl [1, 2, 3, 0] rfl)
set_option maxHeartbeats 4000000 in
set_option maxRecDepth 100000 in
theorem mtX3_init_X6 (l : Launch) (D : va_G) (cI cJ cO : ClassId) (PL : va_W) (sz : Nat) (a_this : Nat) (v_p1 : Int32) (v_p2 : Int32) (v_p3 : Int64) (r0 : Int32 × Int32 × Int64 × Int32 × Int32) (h : fX3_init_X6 v_p1 v_p2 v_p3 = some r0) : Met l yX3_init (rk_w yX3_init cX3_init 5 none) rmX3_init_X6 (va_Pc [.ref a_this, .int v_p1, .int v_p2, .long v_p3] (rk_B D (rk_TY cI cJ cO) [(a_this, .inr (5, [.int 0, .int 0, .long 0, .int 0, .int 0]))] [] PL sz)) (rk_Qv D [(a_this, .inr (5, [.int r0.1, .int r0.2.1, .long r0.2.2.1, .int r0.2.2.2.1, .int r0.2.2.2.2]))] [(a_this, .inr (5, [.int 0, .int 0, .long 0, .int 0, .int 0]))] sz) 0 0 (va_A [(a_this, .inr (5, [.int 0, .int 0, .long 0, .int 0, .int 0]))] sz) := by
  refine rk_metv h (fun x => [(a_this, .inr (5, [.int x.1, .int x.2.1, .long x.2.2.1, .int x.2.2.2.1, .int x.2.2.2.2]))]) (by decide) (Nat.le_of_ble_eq_true rfl) ?_
  intro p e s m args below meth c A ls Q hret hname hF hP hD hA hV hR0 hn hPL hnl hl h hS
  have hx := hF.1
  have hb := hF.2.1
  have hml := hF.2.2.1
  have hown : s.vm.findClass RX3 = some m.cls := hF.2.2.2.1
  have htc := hF.2.2.2.2
  have hname : meth.name = "<init>" := hname
  have hP : va_P D vwCl [(a_this, .inr (5, [.int 0, .int 0, .long 0, .int 0, .int 0]))] s.heap := hP
  have hD : va_D A [(a_this, .inr (5, [.int 0, .int 0, .long 0, .int 0, .int 0]))] := hD
  have hR0 : va_P D vwCl [] s.heap := hR0
  have hR := hR0
  have hl : lv_has ls 5 [(0, .ref a_this), (1, .int v_p1), (2, .int v_p2), (3, .long v_p3)] := hl
  unfold fX3_init_X6 at h
  refine lv_aload_n hx hb dX3_init_0 rfl (lv_at hl 0 rfl) ?_
  refine W.objInit hx hb hown (htc _ w_1_116) (htc _ w_1_21) (htc _ w_1_22) rfl (by rw [hml]; exact hl.1) rfl dX3_init_1 (Nat.le_of_ble_eq_true rfl) (Nat.le_of_ble_eq_true rfl) ?_
  refine W.eq (g2 := F0 m 4 ls []) rfl ?_
  refine lv_aload_n hx hb dX3_init_4 rfl (lv_at hl 0 rfl) ?_
  refine lv_iload_n hx hb dX3_init_5 rfl (lv_at hl 1 rfl) ?_
  refine va_putF (D := D) (ci := 5) (v := .int v_p1) (ty := .int) (C := RX6) (T := TX6) (N := 5) hx hb htc inX6 tyX6 tyX6_ok nmX6 hown hV.1 hP hD hS 0 rfl rfl 0 (by decide) (htc _ w_1_119) (fun _ h9 => h9) rfl hname rfl (by decide +kernel) rfl rfl (Nat.le_of_ble_eq_true rfl) dX3_init_6 (fun H locs hP hD hS => ?_)
  have hP : va_P D vwCl [(a_this, .inr (5, [.int v_p1, .int 0, .long 0, .int 0, .int 0]))] H := hP
  have hD : va_D A [(a_this, .inr (5, [.int v_p1, .int 0, .long 0, .int 0, .int 0]))] := hD
  refine lv_aload_n hx hb dX3_init_9 rfl (lv_at hl 0 rfl) ?_
  refine lv_iload_n hx hb dX3_init_10 rfl (lv_at hl 2 rfl) ?_
  refine va_putF (D := D) (ci := 5) (v := .int v_p2) (ty := .int) (C := RX6) (T := TX6) (N := 5) hx hb htc inX6 tyX6 tyX6_ok nmX6 hown hV.1 hP hD hS 0 rfl rfl 1 (by decide) (htc _ w_1_122) (fun _ h9 => h9) rfl hname rfl (by decide +kernel) rfl rfl (Nat.le_of_ble_eq_true rfl) dX3_init_11 (fun H locs hP hD hS => ?_)
  have hP : va_P D vwCl [(a_this, .inr (5, [.int v_p1, .int v_p2, .long 0, .int 0, .int 0]))] H := hP
  have hD : va_D A [(a_this, .inr (5, [.int v_p1, .int v_p2, .long 0, .int 0, .int 0]))] := hD
  refine lv_aload_n hx hb dX3_init_14 rfl (lv_at hl 0 rfl) ?_
  refine lv_lload_n hx hb dX3_init_15 rfl (lv_at hl 3 rfl) ?_
  refine va_putF (D := D) (ci := 5) (v := .long v_p3) (ty := .long) (C := RX6) (T := TX6) (N := 5) hx hb htc inX6 tyX6 tyX6_ok nmX6 hown hV.1 hP hD hS 0 rfl rfl 2 (by decide) (htc _ w_1_136) (fun _ h9 => h9) rfl hname rfl (by decide +kernel) rfl rfl (Nat.le_of_ble_eq_true rfl) dX3_init_16 (fun H locs hP hD hS => ?_)
  have hP : va_P D vwCl [(a_this, .inr (5, [.int v_p1, .int v_p2, .long v_p3, .int 0, .int 0]))] H := hP
  have hD : va_D A [(a_this, .inr (5, [.int v_p1, .int v_p2, .long v_p3, .int 0, .int 0]))] := hD
  exact hret (v_p1, v_p2, v_p3, 0, 0) _ _ _ _ h dX3_init_19 hP hD hS
set_option maxHeartbeats 4000000 in
set_option maxRecDepth 100000 in
theorem mtX6_init (l : Launch) (D : va_G) (cI cJ cO : ClassId) (PL : va_W) (sz : Nat) (a_this : Nat) (v_p1 : Int32) (v_p2 : Int32) (v_p3 : Int32) (v_p4 : Int64) (r0 : Int32 × Int32 × Int64 × Int32 × Int32) (h : fX6_init v_p1 v_p2 v_p3 v_p4 = some r0) : Met l yX6_init (rk_w yX6_init cX6_init 6 none) rmX6_init (va_Pc [.ref a_this, .int v_p1, .int v_p2, .int v_p3, .long v_p4] (rk_B D (rk_TY cI cJ cO) [(a_this, .inr (5, [.int 0, .int 0, .long 0, .int 0, .int 0]))] [] PL sz)) (rk_Qv D [(a_this, .inr (5, [.int r0.1, .int r0.2.1, .long r0.2.2.1, .int r0.2.2.2.1, .int r0.2.2.2.2]))] [(a_this, .inr (5, [.int 0, .int 0, .long 0, .int 0, .int 0]))] sz) 0 0 (va_A [(a_this, .inr (5, [.int 0, .int 0, .long 0, .int 0, .int 0]))] sz) := by
  refine rk_metv h (fun x => [(a_this, .inr (5, [.int x.1, .int x.2.1, .long x.2.2.1, .int x.2.2.2.1, .int x.2.2.2.2]))]) (by decide) (Nat.le_of_ble_eq_true rfl) ?_
  intro p e s m args below meth c A ls Q hret hname hF hP hD hA hV hR0 hn hPL hnl hl h hS
  have hx := hF.1
  have hb := hF.2.1
  have hml := hF.2.2.1
  have hown : s.vm.findClass RX6 = some m.cls := hF.2.2.2.1
  have htc := hF.2.2.2.2
  have hname : meth.name = "<init>" := hname
  have hP : va_P D vwCl [(a_this, .inr (5, [.int 0, .int 0, .long 0, .int 0, .int 0]))] s.heap := hP
  have hD : va_D A [(a_this, .inr (5, [.int 0, .int 0, .long 0, .int 0, .int 0]))] := hD
  have hR0 : va_P D vwCl [] s.heap := hR0
  have hR := hR0
  have hl : lv_has ls 6 [(0, .ref a_this), (1, .int v_p1), (2, .int v_p2), (3, .int v_p3), (4, .long v_p4)] := hl
  unfold fX6_init at h
  refine lv_aload_n hx hb dX6_init_0 rfl (lv_at hl 0 rfl) ?_
  refine lv_iconst (v := 0) hx hb dX6_init_1 (by decide) ?_
  refine lv_iload_n hx hb dX6_init_2 rfl (lv_at hl 2 rfl) ?_
  refine lv_lload hx hb dX6_init_3 (lv_at hl 4 rfl) ?_
  obtain ⟨r_5, hc_5, h⟩ := rk_bd h
  refine rk_v (wr := []) (va_runI (As := [.int (0 : Int32), .int v_p2, .long v_p4]) (rest := []) hF (mtX3_init_X6 l D cI cJ cO PL _ a_this (0 : Int32) v_p2 v_p4 r_5 hc_5) (cwI 3 htc (rk_gw w_1_115) rfl rfl rfl (htc _ w_1_5) (htc _ w_1_113) (htc _ w_1_114) rfl (by decide +kernel) ⟨(Nat.le_of_ble_eq_true rfl), (Nat.le_of_ble_eq_true rfl)⟩) (rk_preS hP hD hS rk_nilP hn hPL hnl hV [0] [] rfl (by decide) rfl (by decide)) rfl rfl hl.1 rfl (lv_room (Nat.le_of_ble_eq_true rfl)) dX6_init_5 ⟨(Nat.le_of_ble_eq_true rfl), (Nat.le_of_ble_eq_true rfl)⟩) hP hD hS hA hR0 hn [0] [] rfl rfl (by decide) (by decide) (fun H locs hP hD hS hR => ?_)
  have hP : va_P D vwCl [(a_this, .inr (5, [.int r_5.1, .int r_5.2.1, .long r_5.2.2.1, .int r_5.2.2.2.1, .int r_5.2.2.2.2]))] H := hP
  have hD : va_D A [(a_this, .inr (5, [.int r_5.1, .int r_5.2.1, .long r_5.2.2.1, .int r_5.2.2.2.1, .int r_5.2.2.2.2]))] := hD
  refine lv_aload_n hx hb dX6_init_8 rfl (lv_at hl 0 rfl) ?_
  refine lv_iload_n hx hb dX6_init_9 rfl (lv_at hl 1 rfl) ?_
  refine va_putF (D := D) (ci := 5) (v := .int v_p1) (ty := .int) (C := RX6) (T := TX6) (N := 5) hx hb htc inX6 tyX6 tyX6_ok nmX6 hown hV.1 hP hD hS 0 rfl rfl 3 (by decide) (htc _ w_1_117) (fun _ h9 => h9) rfl hname rfl (by decide +kernel) rfl rfl (Nat.le_of_ble_eq_true rfl) dX6_init_10 (fun H locs hP hD hS => ?_)
  have hP : va_P D vwCl [(a_this, .inr (5, [.int r_5.1, .int r_5.2.1, .long r_5.2.2.1, .int v_p1, .int r_5.2.2.2.2]))] H := hP
  have hD : va_D A [(a_this, .inr (5, [.int r_5.1, .int r_5.2.1, .long r_5.2.2.1, .int v_p1, .int r_5.2.2.2.2]))] := hD
  refine lv_aload_n hx hb dX6_init_13 rfl (lv_at hl 0 rfl) ?_
  refine lv_iload_n hx hb dX6_init_14 rfl (lv_at hl 3 rfl) ?_
  refine va_putF (D := D) (ci := 5) (v := .int v_p3) (ty := .int) (C := RX6) (T := TX6) (N := 5) hx hb htc inX6 tyX6 tyX6_ok nmX6 hown hV.1 hP hD hS 0 rfl rfl 4 (by decide) (htc _ w_1_118) (fun _ h9 => h9) rfl hname rfl (by decide +kernel) rfl rfl (Nat.le_of_ble_eq_true rfl) dX6_init_15 (fun H locs hP hD hS => ?_)
  have hP : va_P D vwCl [(a_this, .inr (5, [.int r_5.1, .int r_5.2.1, .long r_5.2.2.1, .int v_p1, .int v_p3]))] H := hP
  have hD : va_D A [(a_this, .inr (5, [.int r_5.1, .int r_5.2.1, .long r_5.2.2.1, .int v_p1, .int v_p3]))] := hD
  exact hret (r_5.1, r_5.2.1, r_5.2.2.1, v_p1, v_p3) _ _ _ _ h dX6_init_18 hP hD hS
set_option maxHeartbeats 4000000 in
set_option maxRecDepth 100000 in
theorem mtX6_accepts (l : Launch) (D : va_G) (cI cJ cO : ClassId) (PL : va_W) (sz : Nat) (a_this : Nat) (f_this_number : Int32) (f_this_width : Int32) (f_this_size : Int64) (f_this_n : Int32) (f_this_order : Int32) (a_p1 : Nat) (c_p1 : Nat → Int32) (a_p2 : Nat) (a_p2_binomials : Nat) (a_p2_partitionCounts : Nat) (a_p2_treeCounts : Nat) (a_p2_sizes : Nat) (a_p2_starts : Nat) (a_p2_ranks : Nat) (a_p2_letters : Nat) (c_p2_letters : Nat → Int32) (c_p2_sizes : Nat → Int32) (r0 : Int32 × (Nat → Int32) × (Nat → Int32)) (h : fX6_accepts f_this_width f_this_n c_p1 c_p2_letters c_p2_sizes = some r0) : Met l yX6_accepts (rk_w yX6_accepts cX6_accepts 6 (some .boolean)) rmX6_accepts (va_Pc [.ref a_this, .ref a_p1, .ref a_p2] (rk_B D (rk_TY cI cJ cO) [(a_p2_letters, .inl (cI, 4, .inl c_p2_letters)), (a_p2_sizes, .inl (cI, 60, .inl c_p2_sizes))] [(a_this, .inr (5, [.int f_this_number, .int f_this_width, .long f_this_size, .int f_this_n, .int f_this_order])), (a_p1, .inl (cI, 60, .inl c_p1)), (a_p2, .inr (2, [.ref a_p2_binomials, .ref a_p2_partitionCounts, .ref a_p2_treeCounts, .ref a_p2_sizes, .ref a_p2_starts, .ref a_p2_ranks, .ref a_p2_letters]))] PL sz)) (rk_Qi r0.1 D [(a_p2_letters, .inl (cI, 4, .inl r0.2.1)), (a_p2_sizes, .inl (cI, 60, .inl r0.2.2))] [(a_p2_letters, .inl (cI, 4, .inl c_p2_letters)), (a_p2_sizes, .inl (cI, 60, .inl c_p2_sizes))] sz) 0 0 (va_A [(a_p2_letters, .inl (cI, 4, .inl c_p2_letters)), (a_p2_sizes, .inl (cI, 60, .inl c_p2_sizes))] sz) := by
  refine rk_metz h (fun x : Int32 × (Nat → Int32) × (Nat → Int32) => x.1) (fun x => [(a_p2_letters, .inl (cI, 4, .inl x.2.1)), (a_p2_sizes, .inl (cI, 60, .inl x.2.2))]) (by decide) (Nat.le_of_ble_eq_true rfl) ?_
  intro p e s m args below meth c A ls Q hret hname hF hP hD hA hV hR0 hn hPL hnl hl h hS
  have hx := hF.1
  have hb := hF.2.1
  have hml := hF.2.2.1
  have hown : s.vm.findClass RX6 = some m.cls := hF.2.2.2.1
  have htc := hF.2.2.2.2
  have hP : va_P D vwCl [(a_p2_letters, .inl (cI, 4, .inl c_p2_letters)), (a_p2_sizes, .inl (cI, 60, .inl c_p2_sizes))] s.heap := hP
  have hD : va_D A [(a_p2_letters, .inl (cI, 4, .inl c_p2_letters)), (a_p2_sizes, .inl (cI, 60, .inl c_p2_sizes))] := hD
  have hR0 : va_P D vwCl [(a_this, .inr (5, [.int f_this_number, .int f_this_width, .long f_this_size, .int f_this_n, .int f_this_order])), (a_p1, .inl (cI, 60, .inl c_p1)), (a_p2, .inr (2, [.ref a_p2_binomials, .ref a_p2_partitionCounts, .ref a_p2_treeCounts, .ref a_p2_sizes, .ref a_p2_starts, .ref a_p2_ranks, .ref a_p2_letters]))] s.heap := hR0
  have hR := hR0
  have hl : lv_has ls 6 [(0, .ref a_this), (1, .ref a_p1), (2, .ref a_p2)] := hl
  unfold fX6_accepts at h
  refine lv_iconst (v := (-1)) hx hb dX6_accepts_0 (by decide) ?_
  refine lv_istore_n (lv' := [(3, .int (-1 : Int32)), (0, .ref a_this), (1, .ref a_p1), (2, .ref a_p2)]) hx hb dX6_accepts_1 rfl hl (by decide) rfl (fun ls hl => ?_)
  refine lv_iconst (v := 0) hx hb dX6_accepts_2 (by decide) ?_
  refine lv_istore (lv' := [(4, .int (0 : Int32)), (3, .int (-1 : Int32)), (0, .ref a_this), (1, .ref a_p1), (2, .ref a_p2)]) hx hb dX6_accepts_3 hl (by decide) rfl (fun ls hl => ?_)
  have L5 : ∀ (n5 : Nat) (b5_l3 : Int32) (b5_l4 : Int32), rk_it2 (fX6_accepts_L5 f_this_width f_this_n c_p1 c_p2_letters c_p2_sizes) n5 b5_l3 b5_l4 = some r0 → ∀ (H : Heap) (locs : List Loc), va_P D vwCl [(a_p2_letters, .inl (cI, 4, .inl c_p2_letters)), (a_p2_sizes, .inl (cI, 60, .inl c_p2_sizes))] H → va_D A [(a_p2_letters, .inl (cI, 4, .inl c_p2_letters)), (a_p2_sizes, .inl (cI, 60, .inl c_p2_sizes))] → va_S A s.heap H locs → ∀ (ls : Array Slot), lv_has ls 6 [(0, .ref a_this), (1, .ref a_p1), (3, .int b5_l3), (4, .int b5_l4)] → W p l e rmX6_accepts s m args below meth c H locs 0 0 Q (F0 m 5 ls []) := by
    intro n5
    induction n5 with
    | zero => intro b5_l3 b5_l4 h; exact rk_no h
    | succ n5 ih5 =>
      intro b5_l3 b5_l4 h H locs hP hD hS ls hl
      have h : fX6_accepts_L5 f_this_width f_this_n c_p1 c_p2_letters c_p2_sizes (rk_it2 (fX6_accepts_L5 f_this_width f_this_n c_p1 c_p2_letters c_p2_sizes) n5) b5_l3 b5_l4 = some r0 := h
      unfold fX6_accepts_L5 at h
      have hR := rk_keep hR0 hn hS
      refine lv_iload hx hb dX6_accepts_5 (lv_at hl 3 rfl) ?_
      refine lv_aload_n hx hb dX6_accepts_7 rfl (lv_at hl 0 rfl) ?_
      refine va_get (D := D) (ci := 5) (v := .int f_this_width) (C := RX6) (T := TX6) (N := 5) hx hb htc inX6 hown hV.1 hR 0 rfl rfl 1 (by decide) (htc _ w_1_127) (fun _ h9 => u_same (htc _ w_1_128) _ h9) rfl dX6_accepts_8 ?_
      refine lv_icmp_ge (tgt := 48) hx hb dX6_accepts_11 (by decide) (fun hc1 => ?_) (fun hc1 => ?_)
      · have h := rk_if hc1 h
        refine lv_iconst (v := 1) hx hb dX6_accepts_48 (by decide) ?_
        exact hret ((1 : Int32), c_p2_letters, c_p2_sizes) _ _ _ _ h rk_nb1 dX6_accepts_49 hP hD hS
      · have h := rk_nif hc1 h
        refine lv_aload_n hx hb dX6_accepts_14 rfl (lv_at hl 1 rfl) ?_
        refine lv_iload hx hb dX6_accepts_15 (lv_at hl 3 rfl) ?_
        obtain ⟨r_17, hc_17, h⟩ := rk_bd h
        refine rk_i (wr := [(a_p2_letters, .inl (cI, 4, .inl c_p2_letters)), (a_p2_sizes, .inl (cI, 60, .inl c_p2_sizes))]) (va_runSN (As := [.ref a_p1, .int b5_l4]) (rest := []) hF (mtX9_at l D cI cJ cO PL _ a_p1 60 c_p1 b5_l4 r_17 hc_17) ⟨va_cnB 2 htc (rk_gw w_1_52) rfl rfl rfl (hV.2.1 _ nw_2_239) (htc _ w_1_1) (by decide +kernel) ⟨(Nat.le_of_ble_eq_true rfl), (Nat.le_of_ble_eq_true rfl)⟩, htc _ w_1_51, trivial⟩ (rk_preS hP hD hS hR hn hPL hnl hV [] [(false, 1)] rfl (by decide) rfl (by decide)) rfl rfl hl.1 rfl (lv_room (Nat.le_of_ble_eq_true rfl)) dX6_accepts_17 ⟨(Nat.le_of_ble_eq_true rfl), (Nat.le_of_ble_eq_true rfl)⟩) hP hD hS hA hR0 hn [] [0, 1] rfl rfl (by decide) (by decide) (fun H locs hP hD hS hR => ?_)
        have hP : va_P D vwCl [(a_p2_letters, .inl (cI, 4, .inl c_p2_letters)), (a_p2_sizes, .inl (cI, 60, .inl c_p2_sizes))] H := hP
        have hD : va_D A [(a_p2_letters, .inl (cI, 4, .inl c_p2_letters)), (a_p2_sizes, .inl (cI, 60, .inl c_p2_sizes))] := hD
        refine lv_istore (lv' := [(5, .int r_17), (0, .ref a_this), (1, .ref a_p1), (3, .int b5_l3), (4, .int b5_l4)]) hx hb dX6_accepts_20 hl (by decide) rfl (fun ls hl => ?_)
        refine lv_iload hx hb dX6_accepts_22 (lv_at hl 0 rfl) ?_
        refine lv_iload_n hx hb dX6_accepts_24 rfl (lv_at hl 3 rfl) ?_
        refine lv_icmp_le (tgt := 37) hx hb dX6_accepts_25 (by decide) (fun hc2 => ?_) (fun hc2 => ?_)
        · have h := rk_if hc2 h
          refine lv_iconst (v := 0) hx hb dX6_accepts_37 (by decide) ?_
          exact hret ((0 : Int32), c_p2_letters, c_p2_sizes) _ _ _ _ h rk_nb0 dX6_accepts_38 hP hD hS
        · have h := rk_nif hc2 h
          refine lv_iload hx hb dX6_accepts_28 (lv_at hl 0 rfl) ?_
          refine lv_aload_n hx hb dX6_accepts_30 rfl (lv_at hl 1 rfl) ?_
          refine va_get (D := D) (ci := 5) (v := .int f_this_n) (C := RX6) (T := TX6) (N := 5) hx hb htc inX6 hown hV.1 hR 0 rfl rfl 3 (by decide) (htc _ w_1_117) (fun _ h9 => h9) rfl dX6_accepts_31 ?_
          refine lv_icmp_lt (tgt := 39) hx hb dX6_accepts_34 (by decide) (fun hc3 => ?_) (fun hc3 => ?_)
          · have h := rk_if hc3 h
            refine lv_iload hx hb dX6_accepts_39 (lv_at hl 0 rfl) ?_
            refine lv_istore_n (lv' := [(3, .int r_17), (5, .int r_17), (0, .ref a_this), (1, .ref a_p1), (4, .int b5_l4)]) hx hb dX6_accepts_41 rfl hl (by decide) rfl (fun ls hl => ?_)
            refine lv_iinc (v := (b5_l4 + 1)) (lv' := [(4, .int (b5_l4 + 1)), (3, .int r_17), (5, .int r_17), (0, .ref a_this), (1, .ref a_p1)]) hx hb dX6_accepts_42 hl (k := 4) rfl rfl (by decide) rfl (fun ls hl => ?_)
            refine lv_goto (tgt := 5) hx hb dX6_accepts_45 (by decide) ?_
            exact ih5 r_17 (b5_l4 + 1) h _ _ hP hD hS _ (lv_sub hl [3, 4, 1, 0] rfl)
          · have h := rk_nif hc3 h
            refine lv_iconst (v := 0) hx hb dX6_accepts_37 (by decide) ?_
            exact hret ((0 : Int32), c_p2_letters, c_p2_sizes) _ _ _ _ h rk_nb0 dX6_accepts_38 hP hD hS
  exact L5 FU (-1 : Int32) (0 : Int32) h _ _ hP hD hS _ (lv_sub hl [2, 3, 1, 0] rfl)
set_option maxHeartbeats 4000000 in
set_option maxRecDepth 100000 in
theorem mtX6_lexicographicPlace (l : Launch) (D : va_G) (cI cJ cO : ClassId) (PL : va_W) (sz : Nat) (a_this : Nat) (f_this_number : Int32) (f_this_width : Int32) (f_this_size : Int64) (f_this_n : Int32) (f_this_order : Int32) (a_p1 : Nat) (c_p1 : Nat → Int32) (a_p2 : Nat) (a_p2_binomials : Nat) (a_p2_partitionCounts : Nat) (a_p2_treeCounts : Nat) (a_p2_sizes : Nat) (a_p2_starts : Nat) (a_p2_ranks : Nat) (a_p2_letters : Nat) (c_p2_binomials : Nat → Int64) (r0 : Int64) (h : fX6_lexicographicPlace f_this_width f_this_n c_p1 c_p2_binomials = some r0) : Met l yX6_lexicographicPlace (rk_w yX6_lexicographicPlace cX6_lexicographicPlace 7 (some .long)) rmX6_lexicographicPlace (va_Pc [.ref a_this, .ref a_p1, .ref a_p2] (rk_B D (rk_TY cI cJ cO) [] [(a_this, .inr (5, [.int f_this_number, .int f_this_width, .long f_this_size, .int f_this_n, .int f_this_order])), (a_p1, .inl (cI, 60, .inl c_p1)), (a_p2, .inr (2, [.ref a_p2_binomials, .ref a_p2_partitionCounts, .ref a_p2_treeCounts, .ref a_p2_sizes, .ref a_p2_starts, .ref a_p2_ranks, .ref a_p2_letters])), (a_p2_binomials, .inl (cJ, 1891, .inr (.inl c_p2_binomials)))] PL sz)) (rk_Ql r0 D [] [] sz) 0 0 (va_A [] sz) := by
  refine rk_metl h (fun x : Int64 => x) (fun x => []) (by decide) (Nat.le_of_ble_eq_true rfl) ?_
  intro p e s m args below meth c A ls Q hret hname hF hP hD hA hV hR0 hn hPL hnl hl h hS
  have hx := hF.1
  have hb := hF.2.1
  have hml := hF.2.2.1
  have hown : s.vm.findClass RX6 = some m.cls := hF.2.2.2.1
  have htc := hF.2.2.2.2
  have hP : va_P D vwCl [] s.heap := hP
  have hD : va_D A [] := hD
  have hR0 : va_P D vwCl [(a_this, .inr (5, [.int f_this_number, .int f_this_width, .long f_this_size, .int f_this_n, .int f_this_order])), (a_p1, .inl (cI, 60, .inl c_p1)), (a_p2, .inr (2, [.ref a_p2_binomials, .ref a_p2_partitionCounts, .ref a_p2_treeCounts, .ref a_p2_sizes, .ref a_p2_starts, .ref a_p2_ranks, .ref a_p2_letters])), (a_p2_binomials, .inl (cJ, 1891, .inr (.inl c_p2_binomials)))] s.heap := hR0
  have hR := hR0
  have hl : lv_has ls 7 [(0, .ref a_this), (1, .ref a_p1), (2, .ref a_p2)] := hl
  unfold fX6_lexicographicPlace at h
  refine lv_lconst (v := 0) hx hb dX6_lexicographicPlace_0 (by decide) ?_
  refine lv_lstore_n (lv' := [(3, .long (0 : Int64)), (0, .ref a_this), (1, .ref a_p1), (2, .ref a_p2)]) hx hb dX6_lexicographicPlace_1 rfl hl (by decide) rfl (fun ls hl => ?_)
  refine lv_iconst (v := 0) hx hb dX6_lexicographicPlace_2 (by decide) ?_
  refine lv_istore (lv' := [(5, .int (0 : Int32)), (3, .long (0 : Int64)), (0, .ref a_this), (1, .ref a_p1), (2, .ref a_p2)]) hx hb dX6_lexicographicPlace_3 hl (by decide) rfl (fun ls hl => ?_)
  refine lv_iconst (v := 0) hx hb dX6_lexicographicPlace_5 (by decide) ?_
  refine lv_istore (lv' := [(6, .int (0 : Int32)), (5, .int (0 : Int32)), (3, .long (0 : Int64)), (0, .ref a_this), (1, .ref a_p1), (2, .ref a_p2)]) hx hb dX6_lexicographicPlace_6 hl (by decide) rfl (fun ls hl => ?_)
  have L8 : ∀ (n8 : Nat) (b8_l3 : Int64) (b8_l5 : Int32) (b8_l6 : Int32), rk_it3 (fX6_lexicographicPlace_L8 f_this_width f_this_n c_p1 c_p2_binomials) n8 b8_l3 b8_l5 b8_l6 = some r0 → ∀ (H : Heap) (locs : List Loc), va_P D vwCl [] H → va_D A [] → va_S A s.heap H locs → ∀ (ls : Array Slot), lv_has ls 7 [(0, .ref a_this), (1, .ref a_p1), (2, .ref a_p2), (3, .long b8_l3), (5, .int b8_l5), (6, .int b8_l6)] → W p l e rmX6_lexicographicPlace s m args below meth c H locs 0 0 Q (F0 m 8 ls []) := by
    intro n8
    induction n8 with
    | zero => intro b8_l3 b8_l5 b8_l6 h; exact rk_no h
    | succ n8 ih8 =>
      intro b8_l3 b8_l5 b8_l6 h H locs hP hD hS ls hl
      have h : fX6_lexicographicPlace_L8 f_this_width f_this_n c_p1 c_p2_binomials (rk_it3 (fX6_lexicographicPlace_L8 f_this_width f_this_n c_p1 c_p2_binomials) n8) b8_l3 b8_l5 b8_l6 = some r0 := h
      unfold fX6_lexicographicPlace_L8 at h
      have hR := rk_keep hR0 hn hS
      refine lv_iload hx hb dX6_lexicographicPlace_8 (lv_at hl 5 rfl) ?_
      refine lv_aload_n hx hb dX6_lexicographicPlace_10 rfl (lv_at hl 0 rfl) ?_
      refine va_get (D := D) (ci := 5) (v := .int f_this_n) (C := RX6) (T := TX6) (N := 5) hx hb htc inX6 hown hV.1 hR 0 rfl rfl 3 (by decide) (htc _ w_1_117) (fun _ h9 => h9) rfl dX6_lexicographicPlace_11 ?_
      refine lv_icmp_ge (tgt := 74) hx hb dX6_lexicographicPlace_14 (by decide) (fun hc1 => ?_) (fun hc1 => ?_)
      · have h := rk_if hc1 h
        refine lv_lload_n hx hb dX6_lexicographicPlace_74 rfl (lv_at hl 3 rfl) ?_
        exact hret b8_l3 _ _ _ _ h dX6_lexicographicPlace_75 hP hD hS
      · have h := rk_nif hc1 h
        refine lv_iload hx hb dX6_lexicographicPlace_17 (lv_at hl 4 rfl) ?_
        refine lv_aload_n hx hb dX6_lexicographicPlace_19 rfl (lv_at hl 0 rfl) ?_
        refine va_get (D := D) (ci := 5) (v := .int f_this_width) (C := RX6) (T := TX6) (N := 5) hx hb htc inX6 hown hV.1 hR 0 rfl rfl 1 (by decide) (htc _ w_1_127) (fun _ h9 => u_same (htc _ w_1_128) _ h9) rfl dX6_lexicographicPlace_20 ?_
        refine lv_icmp_ge (tgt := 74) hx hb dX6_lexicographicPlace_23 (by decide) (fun hc2 => ?_) (fun hc2 => ?_)
        · have h := rk_if hc2 h
          refine lv_lload_n hx hb dX6_lexicographicPlace_74 rfl (lv_at hl 3 rfl) ?_
          exact hret b8_l3 _ _ _ _ h dX6_lexicographicPlace_75 hP hD hS
        · have h := rk_nif hc2 h
          refine lv_aload_n hx hb dX6_lexicographicPlace_26 rfl (lv_at hl 1 rfl) ?_
          refine lv_iload hx hb dX6_lexicographicPlace_27 (lv_at hl 4 rfl) ?_
          obtain ⟨r_29, hc_29, h⟩ := rk_bd h
          refine rk_i (wr := []) (va_runSN (As := [.ref a_p1, .int b8_l5]) (rest := []) hF (mtX9_at l D cI cJ cO PL _ a_p1 60 c_p1 b8_l5 r_29 hc_29) ⟨va_cnB 2 htc (rk_gw w_1_52) rfl rfl rfl (hV.2.1 _ nw_2_239) (htc _ w_1_1) (by decide +kernel) ⟨(Nat.le_of_ble_eq_true rfl), (Nat.le_of_ble_eq_true rfl)⟩, htc _ w_1_51, trivial⟩ (rk_preS hP hD hS hR hn hPL hnl hV [] [(false, 1)] rfl (by decide) rfl (by decide)) rfl rfl hl.1 rfl (lv_room (Nat.le_of_ble_eq_true rfl)) dX6_lexicographicPlace_29 ⟨(Nat.le_of_ble_eq_true rfl), (Nat.le_of_ble_eq_true rfl)⟩) hP hD hS hA hR0 hn [] [] rfl rfl (by decide) (by decide) (fun H locs hP hD hS hR => ?_)
          have hP : va_P D vwCl [] H := hP
          have hD : va_D A [] := hD
          refine lv_iload hx hb dX6_lexicographicPlace_32 (lv_at hl 5 rfl) ?_
          have B68 : ∀ (b68_l3 : Int64) (b68_l5 : Int32), fX6_lexicographicPlace_B68 b8_l6 (rk_it3 (fX6_lexicographicPlace_L8 f_this_width f_this_n c_p1 c_p2_binomials) n8) b68_l3 b68_l5 = some r0 → ∀ (H : Heap) (locs : List Loc), va_P D vwCl [] H → va_D A [] → va_S A s.heap H locs → ∀ (ls : Array Slot), lv_has ls 7 [(0, .ref a_this), (1, .ref a_p1), (2, .ref a_p2), (3, .long b68_l3), (5, .int b68_l5), (6, .int b8_l6)] → W p l e rmX6_lexicographicPlace s m args below meth c H locs 0 0 Q (F0 m 68 ls []) := by
            intro b68_l3 b68_l5 h H locs hP hD hS ls hl
            unfold fX6_lexicographicPlace_B68 at h
            have hR := rk_keep hR0 hn hS
            refine lv_iinc (v := (b8_l6 + 1)) (lv' := [(6, .int (b8_l6 + 1)), (0, .ref a_this), (1, .ref a_p1), (2, .ref a_p2), (3, .long b68_l3), (5, .int b68_l5)]) hx hb dX6_lexicographicPlace_68 hl (k := 5) rfl rfl (by decide) rfl (fun ls hl => ?_)
            refine lv_goto (tgt := 8) hx hb dX6_lexicographicPlace_71 (by decide) ?_
            exact ih8 b68_l3 b68_l5 (b8_l6 + 1) h _ _ hP hD hS _ (lv_sub hl [1, 2, 3, 4, 5, 0] rfl)
          refine lv_icmp_ne (tgt := 43) hx hb dX6_lexicographicPlace_34 (by decide) (fun hc3 => ?_) (fun hc3 => ?_)
          · have h := rk_if hc3 h
            refine lv_lload_n hx hb dX6_lexicographicPlace_43 rfl (lv_at hl 3 rfl) ?_
            refine lv_aload_n hx hb dX6_lexicographicPlace_44 rfl (lv_at hl 2 rfl) ?_
            refine lv_aload_n hx hb dX6_lexicographicPlace_45 rfl (lv_at hl 0 rfl) ?_
            refine va_get (D := D) (ci := 5) (v := .int f_this_n) (C := RX6) (T := TX6) (N := 5) hx hb htc inX6 hown hV.1 hR 0 rfl rfl 3 (by decide) (htc _ w_1_117) (fun _ h9 => h9) rfl dX6_lexicographicPlace_46 ?_
            refine lv_iconst (v := 1) hx hb dX6_lexicographicPlace_49 (by decide) ?_
            refine lv_isub hx hb dX6_lexicographicPlace_50 ?_
            refine lv_iload hx hb dX6_lexicographicPlace_51 (lv_at hl 5 rfl) ?_
            refine lv_isub hx hb dX6_lexicographicPlace_53 ?_
            refine lv_aload_n hx hb dX6_lexicographicPlace_54 rfl (lv_at hl 0 rfl) ?_
            refine va_get (D := D) (ci := 5) (v := .int f_this_width) (C := RX6) (T := TX6) (N := 5) hx hb htc inX6 hown hV.1 hR 0 rfl rfl 1 (by decide) (htc _ w_1_127) (fun _ h9 => u_same (htc _ w_1_128) _ h9) rfl dX6_lexicographicPlace_55 ?_
            refine lv_iconst (v := 1) hx hb dX6_lexicographicPlace_58 (by decide) ?_
            refine lv_isub hx hb dX6_lexicographicPlace_59 ?_
            refine lv_iload hx hb dX6_lexicographicPlace_60 (lv_at hl 4 rfl) ?_
            refine lv_isub hx hb dX6_lexicographicPlace_62 ?_
            obtain ⟨r_63, hc_63, h⟩ := rk_bd h
            refine rk_l (wr := []) (va_runVN (C := RX2) (As := [.int ((f_this_n - (1 : Int32)) - b8_l6), .int ((f_this_width - (1 : Int32)) - b8_l5)]) (rest := [.long b8_l3]) hF (mtX2_binomial l D cI cJ cO PL _ a_p2 a_p2_binomials a_p2_partitionCounts a_p2_treeCounts a_p2_sizes a_p2_starts a_p2_ranks a_p2_letters c_p2_binomials ((f_this_n - (1 : Int32)) - b8_l6) ((f_this_width - (1 : Int32)) - b8_l5) r_63 hc_63) ⟨va_cnB 2 htc (rk_gw w_1_175) rfl rfl rfl (hV.2.1 _ nw_2_11) (htc _ w_1_2) (by decide +kernel) ⟨(Nat.le_of_ble_eq_true rfl), (Nat.le_of_ble_eq_true rfl)⟩, htc _ w_1_174, htc _ ws_0⟩ (rk_preV (va_recv hV.1 hR (ci := 2) (q0 := 2) rfl rfl) (rk_preS hP hD hS hR hn hPL hnl hV [] [(false, 2), (false, 3)] rfl (by decide) rfl (by decide))) rfl rfl hl.1 rfl (lv_room (Nat.le_of_ble_eq_true rfl)) dX6_lexicographicPlace_63 ⟨(Nat.le_of_ble_eq_true rfl), (Nat.le_of_ble_eq_true rfl)⟩) hP hD hS hA hR0 hn [] [] rfl rfl (by decide) (by decide) (fun H locs hP hD hS hR => ?_)
            have hP : va_P D vwCl [] H := hP
            have hD : va_D A [] := hD
            refine lv_ladd hx hb dX6_lexicographicPlace_66 ?_
            refine lv_lstore_n (lv' := [(3, .long (b8_l3 + r_63)), (0, .ref a_this), (1, .ref a_p1), (2, .ref a_p2), (5, .int b8_l5), (6, .int b8_l6)]) hx hb dX6_lexicographicPlace_67 rfl hl (by decide) rfl (fun ls hl => ?_)
            exact B68 (b8_l3 + r_63) b8_l5 h _ _ hP hD hS _ (lv_sub hl [1, 2, 3, 0, 4, 5] rfl)
          · have h := rk_nnif hc3 h
            refine lv_iinc (v := (b8_l5 + 1)) (lv' := [(5, .int (b8_l5 + 1)), (0, .ref a_this), (1, .ref a_p1), (2, .ref a_p2), (3, .long b8_l3), (6, .int b8_l6)]) hx hb dX6_lexicographicPlace_37 hl (k := 4) rfl rfl (by decide) rfl (fun ls hl => ?_)
            refine lv_goto (tgt := 68) hx hb dX6_lexicographicPlace_40 (by decide) ?_
            exact B68 b8_l3 (b8_l5 + 1) h _ _ hP hD hS _ (lv_sub hl [1, 2, 3, 4, 0, 5] rfl)
  exact L8 FU (0 : Int64) (0 : Int32) (0 : Int32) h _ _ hP hD hS _ (lv_sub hl [3, 4, 5, 2, 1, 0] rfl)
set_option maxHeartbeats 4000000 in
set_option maxRecDepth 100000 in
theorem mtX6_placeOf (l : Launch) (D : va_G) (cI cJ cO : ClassId) (PL : va_W) (sz : Nat) (a_this : Nat) (f_this_number : Int32) (f_this_width : Int32) (f_this_size : Int64) (f_this_n : Int32) (f_this_order : Int32) (a_p1 : Nat) (c_p1 : Nat → Int32) (a_p2 : Nat) (a_p2_binomials : Nat) (a_p2_partitionCounts : Nat) (a_p2_treeCounts : Nat) (a_p2_sizes : Nat) (a_p2_starts : Nat) (a_p2_ranks : Nat) (a_p2_letters : Nat) (c_p2_letters : Nat → Int32) (c_p2_ranks : Nat → Int64) (c_p2_sizes : Nat → Int32) (c_p2_binomials : Nat → Int64) (c_p2_partitionCounts : Nat → Int32) (c_p2_treeCounts : Nat → Int64) (r0 : Int64 × (Nat → Int32) × (Nat → Int64) × (Nat → Int32)) (h : fX6_placeOf f_this_width f_this_n f_this_order c_p1 c_p2_letters c_p2_ranks c_p2_sizes c_p2_binomials = some r0) : Met l yX6_placeOf (rk_w yX6_placeOf cX6_placeOf 7 (some .long)) rmX6_placeOf (va_Pc [.ref a_this, .ref a_p1, .ref a_p2] (rk_B D (rk_TY cI cJ cO) [(a_p2_letters, .inl (cI, 4, .inl c_p2_letters)), (a_p2_ranks, .inl (cJ, 60, .inr (.inl c_p2_ranks))), (a_p2_sizes, .inl (cI, 60, .inl c_p2_sizes))] [(a_this, .inr (5, [.int f_this_number, .int f_this_width, .long f_this_size, .int f_this_n, .int f_this_order])), (a_p1, .inl (cI, 60, .inl c_p1)), (a_p2, .inr (2, [.ref a_p2_binomials, .ref a_p2_partitionCounts, .ref a_p2_treeCounts, .ref a_p2_sizes, .ref a_p2_starts, .ref a_p2_ranks, .ref a_p2_letters])), (a_p2_binomials, .inl (cJ, 1891, .inr (.inl c_p2_binomials))), (a_p2_partitionCounts, .inl (cI, 1891, .inl c_p2_partitionCounts)), (a_p2_treeCounts, .inl (cJ, 31, .inr (.inl c_p2_treeCounts)))] PL sz)) (rk_Ql r0.1 D [(a_p2_letters, .inl (cI, 4, .inl r0.2.1)), (a_p2_ranks, .inl (cJ, 60, .inr (.inl r0.2.2.1))), (a_p2_sizes, .inl (cI, 60, .inl r0.2.2.2))] [(a_p2_letters, .inl (cI, 4, .inl c_p2_letters)), (a_p2_ranks, .inl (cJ, 60, .inr (.inl c_p2_ranks))), (a_p2_sizes, .inl (cI, 60, .inl c_p2_sizes))] sz) 0 0 (va_A [(a_p2_letters, .inl (cI, 4, .inl c_p2_letters)), (a_p2_ranks, .inl (cJ, 60, .inr (.inl c_p2_ranks))), (a_p2_sizes, .inl (cI, 60, .inl c_p2_sizes))] sz) := by
  refine rk_metl h (fun x : Int64 × (Nat → Int32) × (Nat → Int64) × (Nat → Int32) => x.1) (fun x => [(a_p2_letters, .inl (cI, 4, .inl x.2.1)), (a_p2_ranks, .inl (cJ, 60, .inr (.inl x.2.2.1))), (a_p2_sizes, .inl (cI, 60, .inl x.2.2.2))]) (by decide) (Nat.le_of_ble_eq_true rfl) ?_
  intro p e s m args below meth c A ls Q hret hname hF hP hD hA hV hR0 hn hPL hnl hl h hS
  have hx := hF.1
  have hb := hF.2.1
  have hml := hF.2.2.1
  have hown : s.vm.findClass RX6 = some m.cls := hF.2.2.2.1
  have htc := hF.2.2.2.2
  have hP : va_P D vwCl [(a_p2_letters, .inl (cI, 4, .inl c_p2_letters)), (a_p2_ranks, .inl (cJ, 60, .inr (.inl c_p2_ranks))), (a_p2_sizes, .inl (cI, 60, .inl c_p2_sizes))] s.heap := hP
  have hD : va_D A [(a_p2_letters, .inl (cI, 4, .inl c_p2_letters)), (a_p2_ranks, .inl (cJ, 60, .inr (.inl c_p2_ranks))), (a_p2_sizes, .inl (cI, 60, .inl c_p2_sizes))] := hD
  have hR0 : va_P D vwCl [(a_this, .inr (5, [.int f_this_number, .int f_this_width, .long f_this_size, .int f_this_n, .int f_this_order])), (a_p1, .inl (cI, 60, .inl c_p1)), (a_p2, .inr (2, [.ref a_p2_binomials, .ref a_p2_partitionCounts, .ref a_p2_treeCounts, .ref a_p2_sizes, .ref a_p2_starts, .ref a_p2_ranks, .ref a_p2_letters])), (a_p2_binomials, .inl (cJ, 1891, .inr (.inl c_p2_binomials))), (a_p2_partitionCounts, .inl (cI, 1891, .inl c_p2_partitionCounts)), (a_p2_treeCounts, .inl (cJ, 31, .inr (.inl c_p2_treeCounts)))] s.heap := hR0
  have hR := hR0
  have hl : lv_has ls 7 [(0, .ref a_this), (1, .ref a_p1), (2, .ref a_p2)] := hl
  unfold fX6_placeOf at h
  refine lv_aload_n hx hb dX6_placeOf_0 rfl (lv_at hl 0 rfl) ?_
  refine va_get (D := D) (ci := 5) (v := .int f_this_order) (C := RX6) (T := TX6) (N := 5) hx hb htc inX6 hown hV.1 hR 0 rfl rfl 4 (by decide) (htc _ w_1_118) (fun _ h9 => h9) rfl dX6_placeOf_1 ?_
  refine lv_if_ne (tgt := 14) hx hb dX6_placeOf_4 (by decide) (fun hc1 => ?_) (fun hc1 => ?_)
  · have h := rk_if hc1 h
    refine lv_lconst (v := 0) hx hb dX6_placeOf_14 (by decide) ?_
    refine lv_lstore_n (lv' := [(3, .long (0 : Int64)), (0, .ref a_this), (1, .ref a_p1), (2, .ref a_p2)]) hx hb dX6_placeOf_15 rfl hl (by decide) rfl (fun ls hl => ?_)
    refine lv_iconst (v := 0) hx hb dX6_placeOf_16 (by decide) ?_
    refine lv_istore (lv' := [(5, .int (0 : Int32)), (3, .long (0 : Int64)), (0, .ref a_this), (1, .ref a_p1), (2, .ref a_p2)]) hx hb dX6_placeOf_17 hl (by decide) rfl (fun ls hl => ?_)
    have L19 : ∀ (n19 : Nat) (b19_l3 : Int64) (b19_l5 : Int32), rk_it2 (fX6_placeOf_L19 f_this_width f_this_order c_p1 c_p2_letters c_p2_ranks c_p2_sizes c_p2_binomials) n19 b19_l3 b19_l5 = some r0 → ∀ (H : Heap) (locs : List Loc), va_P D vwCl [(a_p2_letters, .inl (cI, 4, .inl c_p2_letters)), (a_p2_ranks, .inl (cJ, 60, .inr (.inl c_p2_ranks))), (a_p2_sizes, .inl (cI, 60, .inl c_p2_sizes))] H → va_D A [(a_p2_letters, .inl (cI, 4, .inl c_p2_letters)), (a_p2_ranks, .inl (cJ, 60, .inr (.inl c_p2_ranks))), (a_p2_sizes, .inl (cI, 60, .inl c_p2_sizes))] → va_S A s.heap H locs → ∀ (ls : Array Slot), lv_has ls 7 [(0, .ref a_this), (1, .ref a_p1), (2, .ref a_p2), (3, .long b19_l3), (5, .int b19_l5)] → W p l e rmX6_placeOf s m args below meth c H locs 0 0 Q (F0 m 19 ls []) := by
      intro n19
      induction n19 with
      | zero => intro b19_l3 b19_l5 h; exact rk_no h
      | succ n19 ih19 =>
        intro b19_l3 b19_l5 h H locs hP hD hS ls hl
        have h : fX6_placeOf_L19 f_this_width f_this_order c_p1 c_p2_letters c_p2_ranks c_p2_sizes c_p2_binomials (rk_it2 (fX6_placeOf_L19 f_this_width f_this_order c_p1 c_p2_letters c_p2_ranks c_p2_sizes c_p2_binomials) n19) b19_l3 b19_l5 = some r0 := h
        unfold fX6_placeOf_L19 at h
        have hR := rk_keep hR0 hn hS
        refine lv_iload hx hb dX6_placeOf_19 (lv_at hl 4 rfl) ?_
        refine lv_aload_n hx hb dX6_placeOf_21 rfl (lv_at hl 0 rfl) ?_
        refine va_get (D := D) (ci := 5) (v := .int f_this_width) (C := RX6) (T := TX6) (N := 5) hx hb htc inX6 hown hV.1 hR 0 rfl rfl 1 (by decide) (htc _ w_1_127) (fun _ h9 => u_same (htc _ w_1_128) _ h9) rfl dX6_placeOf_22 ?_
        refine lv_icmp_ge (tgt := 83) hx hb dX6_placeOf_25 (by decide) (fun hc2 => ?_) (fun hc2 => ?_)
        · have h := rk_if hc2 h
          refine lv_lload_n hx hb dX6_placeOf_83 rfl (lv_at hl 3 rfl) ?_
          exact hret (b19_l3, c_p2_letters, c_p2_ranks, c_p2_sizes) _ _ _ _ h dX6_placeOf_84 hP hD hS
        · have h := rk_nif hc2 h
          refine lv_aload_n hx hb dX6_placeOf_28 rfl (lv_at hl 1 rfl) ?_
          refine lv_iload hx hb dX6_placeOf_29 (lv_at hl 4 rfl) ?_
          obtain ⟨r_31, hc_31, h⟩ := rk_bd h
          refine rk_i (wr := [(a_p2_letters, .inl (cI, 4, .inl c_p2_letters)), (a_p2_ranks, .inl (cJ, 60, .inr (.inl c_p2_ranks))), (a_p2_sizes, .inl (cI, 60, .inl c_p2_sizes))]) (va_runSN (As := [.ref a_p1, .int b19_l5]) (rest := []) hF (mtX9_at l D cI cJ cO PL _ a_p1 60 c_p1 b19_l5 r_31 hc_31) ⟨va_cnB 2 htc (rk_gw w_1_52) rfl rfl rfl (hV.2.1 _ nw_2_239) (htc _ w_1_1) (by decide +kernel) ⟨(Nat.le_of_ble_eq_true rfl), (Nat.le_of_ble_eq_true rfl)⟩, htc _ w_1_51, trivial⟩ (rk_preS hP hD hS hR hn hPL hnl hV [] [(false, 1)] rfl (by decide) rfl (by decide)) rfl rfl hl.1 rfl (lv_room (Nat.le_of_ble_eq_true rfl)) dX6_placeOf_31 ⟨(Nat.le_of_ble_eq_true rfl), (Nat.le_of_ble_eq_true rfl)⟩) hP hD hS hA hR0 hn [] [0, 1, 2] rfl rfl (by decide) (by decide) (fun H locs hP hD hS hR => ?_)
          have hP : va_P D vwCl [(a_p2_letters, .inl (cI, 4, .inl c_p2_letters)), (a_p2_ranks, .inl (cJ, 60, .inr (.inl c_p2_ranks))), (a_p2_sizes, .inl (cI, 60, .inl c_p2_sizes))] H := hP
          have hD : va_D A [(a_p2_letters, .inl (cI, 4, .inl c_p2_letters)), (a_p2_ranks, .inl (cJ, 60, .inr (.inl c_p2_ranks))), (a_p2_sizes, .inl (cI, 60, .inl c_p2_sizes))] := hD
          refine lv_istore (lv' := [(6, .int r_31), (0, .ref a_this), (1, .ref a_p1), (2, .ref a_p2), (3, .long b19_l3), (5, .int b19_l5)]) hx hb dX6_placeOf_34 hl (by decide) rfl (fun ls hl => ?_)
          refine lv_aload_n hx hb dX6_placeOf_36 rfl (lv_at hl 1 rfl) ?_
          refine va_get (D := D) (ci := 5) (v := .int f_this_order) (C := RX6) (T := TX6) (N := 5) hx hb htc inX6 hown hV.1 hR 0 rfl rfl 4 (by decide) (htc _ w_1_118) (fun _ h9 => h9) rfl dX6_placeOf_37 ?_
          refine lv_iconst (v := 2) hx hb dX6_placeOf_40 (by decide) ?_
          have B77 : ∀ (b77_l3 : Int64), fX6_placeOf_B77 b19_l5 (rk_it2 (fX6_placeOf_L19 f_this_width f_this_order c_p1 c_p2_letters c_p2_ranks c_p2_sizes c_p2_binomials) n19) b77_l3 = some r0 → ∀ (H : Heap) (locs : List Loc), va_P D vwCl [(a_p2_letters, .inl (cI, 4, .inl c_p2_letters)), (a_p2_ranks, .inl (cJ, 60, .inr (.inl c_p2_ranks))), (a_p2_sizes, .inl (cI, 60, .inl c_p2_sizes))] H → va_D A [(a_p2_letters, .inl (cI, 4, .inl c_p2_letters)), (a_p2_ranks, .inl (cJ, 60, .inr (.inl c_p2_ranks))), (a_p2_sizes, .inl (cI, 60, .inl c_p2_sizes))] → va_S A s.heap H locs → ∀ (ls : Array Slot), lv_has ls 7 [(0, .ref a_this), (1, .ref a_p1), (2, .ref a_p2), (3, .long b77_l3), (5, .int b19_l5)] → W p l e rmX6_placeOf s m args below meth c H locs 0 0 Q (F0 m 77 ls []) := by
            intro b77_l3 h H locs hP hD hS ls hl
            unfold fX6_placeOf_B77 at h
            have hR := rk_keep hR0 hn hS
            refine lv_iinc (v := (b19_l5 + 1)) (lv' := [(5, .int (b19_l5 + 1)), (0, .ref a_this), (1, .ref a_p1), (2, .ref a_p2), (3, .long b77_l3)]) hx hb dX6_placeOf_77 hl (k := 4) rfl rfl (by decide) rfl (fun ls hl => ?_)
            refine lv_goto (tgt := 19) hx hb dX6_placeOf_80 (by decide) ?_
            exact ih19 b77_l3 (b19_l5 + 1) h _ _ hP hD hS _ (lv_sub hl [1, 2, 3, 4, 0] rfl)
          refine lv_icmp_ne (tgt := 64) hx hb dX6_placeOf_41 (by decide) (fun hc3 => ?_) (fun hc3 => ?_)
          · have h := rk_if hc3 h
            refine lv_lload_n hx hb dX6_placeOf_64 rfl (lv_at hl 4 rfl) ?_
            refine lv_aload_n hx hb dX6_placeOf_65 rfl (lv_at hl 3 rfl) ?_
            refine lv_iload hx hb dX6_placeOf_66 (lv_at hl 0 rfl) ?_
            refine lv_iload hx hb dX6_placeOf_68 (lv_at hl 5 rfl) ?_
            refine lv_iconst (v := 1) hx hb dX6_placeOf_70 (by decide) ?_
            refine lv_iadd hx hb dX6_placeOf_71 ?_
            obtain ⟨r_72, hc_72, h⟩ := rk_bd h
            refine rk_l (wr := [(a_p2_letters, .inl (cI, 4, .inl c_p2_letters)), (a_p2_ranks, .inl (cJ, 60, .inr (.inl c_p2_ranks))), (a_p2_sizes, .inl (cI, 60, .inl c_p2_sizes))]) (va_runVN (C := RX2) (As := [.int r_31, .int (b19_l5 + (1 : Int32))]) (rest := [.long b19_l3]) hF (mtX2_binomial l D cI cJ cO PL _ a_p2 a_p2_binomials a_p2_partitionCounts a_p2_treeCounts a_p2_sizes a_p2_starts a_p2_ranks a_p2_letters c_p2_binomials r_31 (b19_l5 + (1 : Int32)) r_72 hc_72) ⟨va_cnB 2 htc (rk_gw w_1_175) rfl rfl rfl (hV.2.1 _ nw_2_11) (htc _ w_1_2) (by decide +kernel) ⟨(Nat.le_of_ble_eq_true rfl), (Nat.le_of_ble_eq_true rfl)⟩, htc _ w_1_174, htc _ ws_0⟩ (rk_preV (va_recv hV.1 hR (ci := 2) (q0 := 2) rfl rfl) (rk_preS hP hD hS hR hn hPL hnl hV [] [(false, 2), (false, 3)] rfl (by decide) rfl (by decide))) rfl rfl hl.1 rfl (lv_room (Nat.le_of_ble_eq_true rfl)) dX6_placeOf_72 ⟨(Nat.le_of_ble_eq_true rfl), (Nat.le_of_ble_eq_true rfl)⟩) hP hD hS hA hR0 hn [] [0, 1, 2] rfl rfl (by decide) (by decide) (fun H locs hP hD hS hR => ?_)
            have hP : va_P D vwCl [(a_p2_letters, .inl (cI, 4, .inl c_p2_letters)), (a_p2_ranks, .inl (cJ, 60, .inr (.inl c_p2_ranks))), (a_p2_sizes, .inl (cI, 60, .inl c_p2_sizes))] H := hP
            have hD : va_D A [(a_p2_letters, .inl (cI, 4, .inl c_p2_letters)), (a_p2_ranks, .inl (cJ, 60, .inr (.inl c_p2_ranks))), (a_p2_sizes, .inl (cI, 60, .inl c_p2_sizes))] := hD
            refine lv_ladd hx hb dX6_placeOf_75 ?_
            refine lv_lstore_n (lv' := [(3, .long (b19_l3 + r_72)), (6, .int r_31), (0, .ref a_this), (1, .ref a_p1), (2, .ref a_p2), (5, .int b19_l5)]) hx hb dX6_placeOf_76 rfl hl (by decide) rfl (fun ls hl => ?_)
            exact B77 (b19_l3 + r_72) h _ _ hP hD hS _ (lv_sub hl [2, 3, 4, 0, 5] rfl)
          · have h := rk_nnif hc3 h
            refine lv_aload_n hx hb dX6_placeOf_44 rfl (lv_at hl 3 rfl) ?_
            refine lv_iload hx hb dX6_placeOf_45 (lv_at hl 0 rfl) ?_
            refine lv_iconst (v := 1) hx hb dX6_placeOf_47 (by decide) ?_
            refine lv_iadd hx hb dX6_placeOf_48 ?_
            refine lv_iload hx hb dX6_placeOf_49 (lv_at hl 5 rfl) ?_
            refine lv_iconst (v := 1) hx hb dX6_placeOf_51 (by decide) ?_
            refine lv_iadd hx hb dX6_placeOf_52 ?_
            obtain ⟨r_53, hc_53, h⟩ := rk_bd h
            refine rk_l (wr := [(a_p2_letters, .inl (cI, 4, .inl c_p2_letters)), (a_p2_ranks, .inl (cJ, 60, .inr (.inl c_p2_ranks))), (a_p2_sizes, .inl (cI, 60, .inl c_p2_sizes))]) (va_runVN (C := RX2) (As := [.int (r_31 + (1 : Int32)), .int (b19_l5 + (1 : Int32))]) (rest := []) hF (mtX2_binomial l D cI cJ cO PL _ a_p2 a_p2_binomials a_p2_partitionCounts a_p2_treeCounts a_p2_sizes a_p2_starts a_p2_ranks a_p2_letters c_p2_binomials (r_31 + (1 : Int32)) (b19_l5 + (1 : Int32)) r_53 hc_53) ⟨va_cnB 2 htc (rk_gw w_1_175) rfl rfl rfl (hV.2.1 _ nw_2_11) (htc _ w_1_2) (by decide +kernel) ⟨(Nat.le_of_ble_eq_true rfl), (Nat.le_of_ble_eq_true rfl)⟩, htc _ w_1_174, htc _ ws_0⟩ (rk_preV (va_recv hV.1 hR (ci := 2) (q0 := 2) rfl rfl) (rk_preS hP hD hS hR hn hPL hnl hV [] [(false, 2), (false, 3)] rfl (by decide) rfl (by decide))) rfl rfl hl.1 rfl (lv_room (Nat.le_of_ble_eq_true rfl)) dX6_placeOf_53 ⟨(Nat.le_of_ble_eq_true rfl), (Nat.le_of_ble_eq_true rfl)⟩) hP hD hS hA hR0 hn [] [0, 1, 2] rfl rfl (by decide) (by decide) (fun H locs hP hD hS hR => ?_)
            have hP : va_P D vwCl [(a_p2_letters, .inl (cI, 4, .inl c_p2_letters)), (a_p2_ranks, .inl (cJ, 60, .inr (.inl c_p2_ranks))), (a_p2_sizes, .inl (cI, 60, .inl c_p2_sizes))] H := hP
            have hD : va_D A [(a_p2_letters, .inl (cI, 4, .inl c_p2_letters)), (a_p2_ranks, .inl (cJ, 60, .inr (.inl c_p2_ranks))), (a_p2_sizes, .inl (cI, 60, .inl c_p2_sizes))] := hD
            refine lv_lconst (v := 1) hx hb dX6_placeOf_56 (by decide) ?_
            refine lv_lsub hx hb dX6_placeOf_57 ?_
            refine lv_lload_n hx hb dX6_placeOf_58 rfl (lv_at hl 4 rfl) ?_
            refine lv_lsub hx hb dX6_placeOf_59 ?_
            refine lv_lstore_n (lv' := [(3, .long ((r_53 - (1 : Int64)) - b19_l3)), (6, .int r_31), (0, .ref a_this), (1, .ref a_p1), (2, .ref a_p2), (5, .int b19_l5)]) hx hb dX6_placeOf_60 rfl hl (by decide) rfl (fun ls hl => ?_)
            refine lv_goto (tgt := 77) hx hb dX6_placeOf_61 (by decide) ?_
            exact B77 ((r_53 - (1 : Int64)) - b19_l3) h _ _ hP hD hS _ (lv_sub hl [2, 3, 4, 0, 5] rfl)
    exact L19 FU (0 : Int64) (0 : Int32) h _ _ hP hD hS _ (lv_sub hl [2, 3, 4, 1, 0] rfl)
  · have h := rk_nnif hc1 h
    refine lv_aload_n hx hb dX6_placeOf_7 rfl (lv_at hl 0 rfl) ?_
    refine lv_aload_n hx hb dX6_placeOf_8 rfl (lv_at hl 1 rfl) ?_
    refine lv_aload_n hx hb dX6_placeOf_9 rfl (lv_at hl 2 rfl) ?_
    obtain ⟨r_10, hc_10, h⟩ := rk_bd h
    refine rk_l (wr := [(a_p2_letters, .inl (cI, 4, .inl c_p2_letters)), (a_p2_ranks, .inl (cJ, 60, .inr (.inl c_p2_ranks))), (a_p2_sizes, .inl (cI, 60, .inl c_p2_sizes))]) (va_runV (C := RX6) (As := [.ref a_p1, .ref a_p2]) (rest := []) hF (mtX6_lexicographicPlace l D cI cJ cO PL _ a_this f_this_number f_this_width f_this_size f_this_n f_this_order a_p1 c_p1 a_p2 a_p2_binomials a_p2_partitionCounts a_p2_treeCounts a_p2_sizes a_p2_starts a_p2_ranks a_p2_letters c_p2_binomials r_10 hc_10) (cwV 2 htc (rk_gV w_3_41 w_3_43 ws_19 w_1_6 w_3_44) rfl rfl rfl (by decide +kernel) ⟨(Nat.le_of_ble_eq_true rfl), (Nat.le_of_ble_eq_true rfl)⟩) (rk_preV (va_recv hV.1 hR (ci := 5) (q0 := 0) rfl rfl) (rk_preS hP hD hS hR hn hPL hnl hV [] [(false, 0), (false, 1), (false, 2), (false, 3)] rfl (by decide) rfl (by decide))) rfl rfl hl.1 rfl (lv_room (Nat.le_of_ble_eq_true rfl)) dX6_placeOf_10 ⟨(Nat.le_of_ble_eq_true rfl), (Nat.le_of_ble_eq_true rfl)⟩) hP hD hS hA hR0 hn [] [0, 1, 2] rfl rfl (by decide) (by decide) (fun H locs hP hD hS hR => ?_)
    have hP : va_P D vwCl [(a_p2_letters, .inl (cI, 4, .inl c_p2_letters)), (a_p2_ranks, .inl (cJ, 60, .inr (.inl c_p2_ranks))), (a_p2_sizes, .inl (cI, 60, .inl c_p2_sizes))] H := hP
    have hD : va_D A [(a_p2_letters, .inl (cI, 4, .inl c_p2_letters)), (a_p2_ranks, .inl (cJ, 60, .inr (.inl c_p2_ranks))), (a_p2_sizes, .inl (cI, 60, .inl c_p2_sizes))] := hD
    exact hret (r_10, c_p2_letters, c_p2_ranks, c_p2_sizes) _ _ _ _ h dX6_placeOf_13 hP hD hS
set_option maxHeartbeats 4000000 in
set_option maxRecDepth 100000 in
theorem mtX6_layLexicographic (l : Launch) (D : va_G) (cI cJ cO : ClassId) (PL : va_W) (sz : Nat) (a_p3 : Nat) (c_p3 : Nat → Int32) (a_this : Nat) (f_this_number : Int32) (f_this_width : Int32) (f_this_size : Int64) (f_this_n : Int32) (f_this_order : Int32) (a_p4 : Nat) (a_p4_binomials : Nat) (a_p4_partitionCounts : Nat) (a_p4_treeCounts : Nat) (a_p4_sizes : Nat) (a_p4_starts : Nat) (a_p4_ranks : Nat) (a_p4_letters : Nat) (c_p4_binomials : Nat → Int64) (v_p1 : Int64) (r0 : (Nat → Int32)) (h : fX6_layLexicographic c_p3 f_this_width f_this_n c_p4_binomials v_p1 = some r0) : Met l yX6_layLexicographic (rk_w yX6_layLexicographic cX6_layLexicographic 11 none) rmX6_layLexicographic (va_Pc [.ref a_this, .long v_p1, .ref a_p3, .ref a_p4] (rk_B D (rk_TY cI cJ cO) [(a_p3, .inl (cI, 60, .inl c_p3))] [(a_this, .inr (5, [.int f_this_number, .int f_this_width, .long f_this_size, .int f_this_n, .int f_this_order])), (a_p4, .inr (2, [.ref a_p4_binomials, .ref a_p4_partitionCounts, .ref a_p4_treeCounts, .ref a_p4_sizes, .ref a_p4_starts, .ref a_p4_ranks, .ref a_p4_letters])), (a_p4_binomials, .inl (cJ, 1891, .inr (.inl c_p4_binomials)))] PL sz)) (rk_Qv D [(a_p3, .inl (cI, 60, .inl r0))] [(a_p3, .inl (cI, 60, .inl c_p3))] sz) 0 0 (va_A [(a_p3, .inl (cI, 60, .inl c_p3))] sz) := by
  refine rk_metv h (fun x => [(a_p3, .inl (cI, 60, .inl x))]) (by decide) (Nat.le_of_ble_eq_true rfl) ?_
  intro p e s m args below meth c A ls Q hret hname hF hP hD hA hV hR0 hn hPL hnl hl h hS
  have hx := hF.1
  have hb := hF.2.1
  have hml := hF.2.2.1
  have hown : s.vm.findClass RX6 = some m.cls := hF.2.2.2.1
  have htc := hF.2.2.2.2
  have hP : va_P D vwCl [(a_p3, .inl (cI, 60, .inl c_p3))] s.heap := hP
  have hD : va_D A [(a_p3, .inl (cI, 60, .inl c_p3))] := hD
  have hR0 : va_P D vwCl [(a_this, .inr (5, [.int f_this_number, .int f_this_width, .long f_this_size, .int f_this_n, .int f_this_order])), (a_p4, .inr (2, [.ref a_p4_binomials, .ref a_p4_partitionCounts, .ref a_p4_treeCounts, .ref a_p4_sizes, .ref a_p4_starts, .ref a_p4_ranks, .ref a_p4_letters])), (a_p4_binomials, .inl (cJ, 1891, .inr (.inl c_p4_binomials)))] s.heap := hR0
  have hR := hR0
  have hl : lv_has ls 11 [(0, .ref a_this), (1, .long v_p1), (3, .ref a_p3), (4, .ref a_p4)] := hl
  unfold fX6_layLexicographic at h
  refine lv_lload_n hx hb dX6_layLexicographic_0 rfl (lv_at hl 1 rfl) ?_
  refine lv_lstore (lv' := [(5, .long v_p1), (0, .ref a_this), (1, .long v_p1), (3, .ref a_p3), (4, .ref a_p4)]) hx hb dX6_layLexicographic_1 hl (by decide) rfl (fun ls hl => ?_)
  refine lv_iconst (v := 0) hx hb dX6_layLexicographic_3 (by decide) ?_
  refine lv_istore (lv' := [(7, .int (0 : Int32)), (5, .long v_p1), (0, .ref a_this), (1, .long v_p1), (3, .ref a_p3), (4, .ref a_p4)]) hx hb dX6_layLexicographic_4 hl (by decide) rfl (fun ls hl => ?_)
  refine lv_iconst (v := 0) hx hb dX6_layLexicographic_6 (by decide) ?_
  refine lv_istore (lv' := [(8, .int (0 : Int32)), (7, .int (0 : Int32)), (5, .long v_p1), (0, .ref a_this), (1, .long v_p1), (3, .ref a_p3), (4, .ref a_p4)]) hx hb dX6_layLexicographic_7 hl (by decide) rfl (fun ls hl => ?_)
  have L9 : ∀ (n9 : Nat) (b9_l5 : Int64) (b9_l7 : Int32) (b9_l8 : Int32) (b9_c_p3 : Nat → Int32), rk_it4 (fX6_layLexicographic_L9 f_this_width f_this_n c_p4_binomials) n9 b9_l5 b9_l7 b9_l8 b9_c_p3 = some r0 → ∀ (H : Heap) (locs : List Loc), va_P D vwCl [(a_p3, .inl (cI, 60, .inl b9_c_p3))] H → va_D A [(a_p3, .inl (cI, 60, .inl b9_c_p3))] → va_S A s.heap H locs → ∀ (ls : Array Slot), lv_has ls 11 [(0, .ref a_this), (3, .ref a_p3), (4, .ref a_p4), (5, .long b9_l5), (7, .int b9_l7), (8, .int b9_l8)] → W p l e rmX6_layLexicographic s m args below meth c H locs 0 0 Q (F0 m 9 ls []) := by
    intro n9
    induction n9 with
    | zero => intro b9_l5 b9_l7 b9_l8 b9_c_p3 h; exact rk_no h
    | succ n9 ih9 =>
      intro b9_l5 b9_l7 b9_l8 b9_c_p3 h H locs hP hD hS ls hl
      have h : fX6_layLexicographic_L9 f_this_width f_this_n c_p4_binomials (rk_it4 (fX6_layLexicographic_L9 f_this_width f_this_n c_p4_binomials) n9) b9_l5 b9_l7 b9_l8 b9_c_p3 = some r0 := h
      unfold fX6_layLexicographic_L9 at h
      have hR := rk_keep hR0 hn hS
      refine lv_iload hx hb dX6_layLexicographic_9 (lv_at hl 5 rfl) ?_
      refine lv_aload_n hx hb dX6_layLexicographic_11 rfl (lv_at hl 0 rfl) ?_
      refine va_get (D := D) (ci := 5) (v := .int f_this_n) (C := RX6) (T := TX6) (N := 5) hx hb htc inX6 hown hV.1 hR 0 rfl rfl 3 (by decide) (htc _ w_1_117) (fun _ h9 => h9) rfl dX6_layLexicographic_12 ?_
      refine lv_icmp_ge (tgt := 87) hx hb dX6_layLexicographic_15 (by decide) (fun hc1 => ?_) (fun hc1 => ?_)
      · have h := rk_if hc1 h
        exact hret b9_c_p3 _ _ _ _ h dX6_layLexicographic_87 hP hD hS
      · have h := rk_nif hc1 h
        refine lv_iload hx hb dX6_layLexicographic_18 (lv_at hl 4 rfl) ?_
        refine lv_aload_n hx hb dX6_layLexicographic_20 rfl (lv_at hl 0 rfl) ?_
        refine va_get (D := D) (ci := 5) (v := .int f_this_width) (C := RX6) (T := TX6) (N := 5) hx hb htc inX6 hown hV.1 hR 0 rfl rfl 1 (by decide) (htc _ w_1_127) (fun _ h9 => u_same (htc _ w_1_128) _ h9) rfl dX6_layLexicographic_21 ?_
        refine lv_icmp_ge (tgt := 87) hx hb dX6_layLexicographic_24 (by decide) (fun hc2 => ?_) (fun hc2 => ?_)
        · have h := rk_if hc2 h
          exact hret b9_c_p3 _ _ _ _ h dX6_layLexicographic_87 hP hD hS
        · have h := rk_nif hc2 h
          refine lv_aload hx hb dX6_layLexicographic_27 (lv_at hl 2 rfl) ?_
          refine lv_aload_n hx hb dX6_layLexicographic_29 rfl (lv_at hl 0 rfl) ?_
          refine va_get (D := D) (ci := 5) (v := .int f_this_n) (C := RX6) (T := TX6) (N := 5) hx hb htc inX6 hown hV.1 hR 0 rfl rfl 3 (by decide) (htc _ w_1_117) (fun _ h9 => h9) rfl dX6_layLexicographic_30 ?_
          refine lv_iconst (v := 1) hx hb dX6_layLexicographic_33 (by decide) ?_
          refine lv_isub hx hb dX6_layLexicographic_34 ?_
          refine lv_iload hx hb dX6_layLexicographic_35 (lv_at hl 5 rfl) ?_
          refine lv_isub hx hb dX6_layLexicographic_37 ?_
          refine lv_aload_n hx hb dX6_layLexicographic_38 rfl (lv_at hl 0 rfl) ?_
          refine va_get (D := D) (ci := 5) (v := .int f_this_width) (C := RX6) (T := TX6) (N := 5) hx hb htc inX6 hown hV.1 hR 0 rfl rfl 1 (by decide) (htc _ w_1_127) (fun _ h9 => u_same (htc _ w_1_128) _ h9) rfl dX6_layLexicographic_39 ?_
          refine lv_iconst (v := 1) hx hb dX6_layLexicographic_42 (by decide) ?_
          refine lv_isub hx hb dX6_layLexicographic_43 ?_
          refine lv_iload hx hb dX6_layLexicographic_44 (lv_at hl 4 rfl) ?_
          refine lv_isub hx hb dX6_layLexicographic_46 ?_
          obtain ⟨r_47, hc_47, h⟩ := rk_bd h
          refine rk_l (wr := [(a_p3, .inl (cI, 60, .inl b9_c_p3))]) (va_runVN (C := RX2) (As := [.int ((f_this_n - (1 : Int32)) - b9_l8), .int ((f_this_width - (1 : Int32)) - b9_l7)]) (rest := []) hF (mtX2_binomial l D cI cJ cO PL _ a_p4 a_p4_binomials a_p4_partitionCounts a_p4_treeCounts a_p4_sizes a_p4_starts a_p4_ranks a_p4_letters c_p4_binomials ((f_this_n - (1 : Int32)) - b9_l8) ((f_this_width - (1 : Int32)) - b9_l7) r_47 hc_47) ⟨va_cnB 2 htc (rk_gw w_1_175) rfl rfl rfl (hV.2.1 _ nw_2_11) (htc _ w_1_2) (by decide +kernel) ⟨(Nat.le_of_ble_eq_true rfl), (Nat.le_of_ble_eq_true rfl)⟩, htc _ w_1_174, htc _ ws_0⟩ (rk_preV (va_recv hV.1 hR (ci := 2) (q0 := 1) rfl rfl) (rk_preS hP hD hS hR hn hPL hnl hV [] [(false, 1), (false, 2)] rfl (by decide) rfl (by decide))) rfl rfl hl.1 rfl (lv_room (Nat.le_of_ble_eq_true rfl)) dX6_layLexicographic_47 ⟨(Nat.le_of_ble_eq_true rfl), (Nat.le_of_ble_eq_true rfl)⟩) hP hD hS hA hR0 hn [] [0] rfl rfl (by decide) (by decide) (fun H locs hP hD hS hR => ?_)
          have hP : va_P D vwCl [(a_p3, .inl (cI, 60, .inl b9_c_p3))] H := hP
          have hD : va_D A [(a_p3, .inl (cI, 60, .inl b9_c_p3))] := hD
          refine lv_lstore (lv' := [(9, .long r_47), (0, .ref a_this), (3, .ref a_p3), (4, .ref a_p4), (5, .long b9_l5), (7, .int b9_l7), (8, .int b9_l8)]) hx hb dX6_layLexicographic_50 hl (by decide) rfl (fun ls hl => ?_)
          refine lv_lload hx hb dX6_layLexicographic_52 (lv_at hl 4 rfl) ?_
          refine lv_lload hx hb dX6_layLexicographic_54 (lv_at hl 0 rfl) ?_
          have B81 : ∀ (b81_l5 : Int64) (b81_l7 : Int32) (b81_c_p3 : Nat → Int32), fX6_layLexicographic_B81 b9_l8 (rk_it4 (fX6_layLexicographic_L9 f_this_width f_this_n c_p4_binomials) n9) b81_l5 b81_l7 b81_c_p3 = some r0 → ∀ (H : Heap) (locs : List Loc), va_P D vwCl [(a_p3, .inl (cI, 60, .inl b81_c_p3))] H → va_D A [(a_p3, .inl (cI, 60, .inl b81_c_p3))] → va_S A s.heap H locs → ∀ (ls : Array Slot), lv_has ls 11 [(0, .ref a_this), (3, .ref a_p3), (4, .ref a_p4), (5, .long b81_l5), (7, .int b81_l7), (8, .int b9_l8)] → W p l e rmX6_layLexicographic s m args below meth c H locs 0 0 Q (F0 m 81 ls []) := by
            intro b81_l5 b81_l7 b81_c_p3 h H locs hP hD hS ls hl
            unfold fX6_layLexicographic_B81 at h
            have hR := rk_keep hR0 hn hS
            refine lv_iinc (v := (b9_l8 + 1)) (lv' := [(8, .int (b9_l8 + 1)), (0, .ref a_this), (3, .ref a_p3), (4, .ref a_p4), (5, .long b81_l5), (7, .int b81_l7)]) hx hb dX6_layLexicographic_81 hl (k := 5) rfl rfl (by decide) rfl (fun ls hl => ?_)
            refine lv_goto (tgt := 9) hx hb dX6_layLexicographic_84 (by decide) ?_
            exact ih9 b81_l5 b81_l7 (b9_l8 + 1) b81_c_p3 h _ _ hP hD hS _ (lv_sub hl [1, 2, 3, 4, 5, 0] rfl)
          refine rk_lcge (tgt := 74) hx hb dX6_layLexicographic_56 dX6_layLexicographic_57 (by decide) (fun hc3 => ?_) (fun hc3 => ?_)
          · have h := rk_if hc3 h
            refine lv_lload hx hb dX6_layLexicographic_74 (lv_at hl 4 rfl) ?_
            refine lv_lload hx hb dX6_layLexicographic_76 (lv_at hl 0 rfl) ?_
            refine lv_lsub hx hb dX6_layLexicographic_78 ?_
            refine lv_lstore (lv' := [(5, .long (b9_l5 - r_47)), (9, .long r_47), (0, .ref a_this), (3, .ref a_p3), (4, .ref a_p4), (7, .int b9_l7), (8, .int b9_l8)]) hx hb dX6_layLexicographic_79 hl (by decide) rfl (fun ls hl => ?_)
            exact B81 (b9_l5 - r_47) b9_l7 b9_c_p3 h _ _ hP hD hS _ (lv_sub hl [2, 3, 4, 0, 5, 6] rfl)
          · have h := rk_nif hc3 h
            refine lv_aload_n hx hb dX6_layLexicographic_60 rfl (lv_at hl 2 rfl) ?_
            refine lv_iload hx hb dX6_layLexicographic_61 (lv_at hl 5 rfl) ?_
            refine lv_iload hx hb dX6_layLexicographic_63 (lv_at hl 6 rfl) ?_
            obtain ⟨r_65, hc_65, h⟩ := rk_bd h
            refine rk_v (wr := []) (va_runSN (As := [.ref a_p3, .int b9_l7, .int b9_l8]) (rest := []) hF (mtX9_set l D cI cJ cO PL _ a_p3 60 b9_c_p3 b9_l7 b9_l8 r_65 hc_65) ⟨va_cnB 3 htc (rk_gw w_1_46) rfl rfl rfl (hV.2.1 _ nw_2_12) (htc _ w_1_1) (by decide +kernel) ⟨(Nat.le_of_ble_eq_true rfl), (Nat.le_of_ble_eq_true rfl)⟩, htc _ w_1_45, trivial⟩ (rk_preS hP hD hS hR hn hPL hnl hV [0] [] rfl (by decide) rfl (by decide)) rfl rfl hl.1 rfl (lv_room (Nat.le_of_ble_eq_true rfl)) dX6_layLexicographic_65 ⟨(Nat.le_of_ble_eq_true rfl), (Nat.le_of_ble_eq_true rfl)⟩) hP hD hS hA hR0 hn [0] [] rfl rfl (by decide) (by decide) (fun H locs hP hD hS hR => ?_)
            have hP : va_P D vwCl [(a_p3, .inl (cI, 60, .inl r_65))] H := hP
            have hD : va_D A [(a_p3, .inl (cI, 60, .inl r_65))] := hD
            refine lv_iinc (v := (b9_l7 + 1)) (lv' := [(7, .int (b9_l7 + 1)), (9, .long r_47), (0, .ref a_this), (3, .ref a_p3), (4, .ref a_p4), (5, .long b9_l5), (8, .int b9_l8)]) hx hb dX6_layLexicographic_68 hl (k := 5) rfl rfl (by decide) rfl (fun ls hl => ?_)
            refine lv_goto (tgt := 81) hx hb dX6_layLexicographic_71 (by decide) ?_
            exact B81 b9_l5 (b9_l7 + 1) r_65 h _ _ hP hD hS _ (lv_sub hl [2, 3, 4, 5, 0, 6] rfl)
  exact L9 FU v_p1 (0 : Int32) (0 : Int32) c_p3 h _ _ hP hD hS _ (lv_sub hl [3, 5, 6, 2, 1, 0] rfl)
set_option maxHeartbeats 4000000 in
set_option maxRecDepth 100000 in
theorem mtX6_lay (l : Launch) (D : va_G) (cI cJ cO : ClassId) (PL : va_W) (sz : Nat) (a_p3 : Nat) (c_p3 : Nat → Int32) (a_this : Nat) (f_this_number : Int32) (f_this_width : Int32) (f_this_size : Int64) (f_this_n : Int32) (f_this_order : Int32) (a_p4 : Nat) (a_p4_binomials : Nat) (a_p4_partitionCounts : Nat) (a_p4_treeCounts : Nat) (a_p4_sizes : Nat) (a_p4_starts : Nat) (a_p4_ranks : Nat) (a_p4_letters : Nat) (c_p4_letters : Nat → Int32) (c_p4_ranks : Nat → Int64) (c_p4_sizes : Nat → Int32) (c_p4_binomials : Nat → Int64) (c_p4_partitionCounts : Nat → Int32) (c_p4_treeCounts : Nat → Int64) (v_p1 : Int64) (r0 : (Nat → Int32) × (Nat → Int32) × (Nat → Int64) × (Nat → Int32)) (h : fX6_lay c_p3 f_this_width f_this_n f_this_order c_p4_letters c_p4_ranks c_p4_sizes c_p4_binomials v_p1 = some r0) : Met l yX6_lay (rk_w yX6_lay cX6_lay 11 none) rmX6_lay (va_Pc [.ref a_this, .long v_p1, .ref a_p3, .ref a_p4] (rk_B D (rk_TY cI cJ cO) [(a_p3, .inl (cI, 60, .inl c_p3)), (a_p4_letters, .inl (cI, 4, .inl c_p4_letters)), (a_p4_ranks, .inl (cJ, 60, .inr (.inl c_p4_ranks))), (a_p4_sizes, .inl (cI, 60, .inl c_p4_sizes))] [(a_this, .inr (5, [.int f_this_number, .int f_this_width, .long f_this_size, .int f_this_n, .int f_this_order])), (a_p4, .inr (2, [.ref a_p4_binomials, .ref a_p4_partitionCounts, .ref a_p4_treeCounts, .ref a_p4_sizes, .ref a_p4_starts, .ref a_p4_ranks, .ref a_p4_letters])), (a_p4_binomials, .inl (cJ, 1891, .inr (.inl c_p4_binomials))), (a_p4_partitionCounts, .inl (cI, 1891, .inl c_p4_partitionCounts)), (a_p4_treeCounts, .inl (cJ, 31, .inr (.inl c_p4_treeCounts)))] PL sz)) (rk_Qv D [(a_p3, .inl (cI, 60, .inl r0.1)), (a_p4_letters, .inl (cI, 4, .inl r0.2.1)), (a_p4_ranks, .inl (cJ, 60, .inr (.inl r0.2.2.1))), (a_p4_sizes, .inl (cI, 60, .inl r0.2.2.2))] [(a_p3, .inl (cI, 60, .inl c_p3)), (a_p4_letters, .inl (cI, 4, .inl c_p4_letters)), (a_p4_ranks, .inl (cJ, 60, .inr (.inl c_p4_ranks))), (a_p4_sizes, .inl (cI, 60, .inl c_p4_sizes))] sz) 0 0 (va_A [(a_p3, .inl (cI, 60, .inl c_p3)), (a_p4_letters, .inl (cI, 4, .inl c_p4_letters)), (a_p4_ranks, .inl (cJ, 60, .inr (.inl c_p4_ranks))), (a_p4_sizes, .inl (cI, 60, .inl c_p4_sizes))] sz) := by
  refine rk_metv h (fun x => [(a_p3, .inl (cI, 60, .inl x.1)), (a_p4_letters, .inl (cI, 4, .inl x.2.1)), (a_p4_ranks, .inl (cJ, 60, .inr (.inl x.2.2.1))), (a_p4_sizes, .inl (cI, 60, .inl x.2.2.2))]) (by decide) (Nat.le_of_ble_eq_true rfl) ?_
  intro p e s m args below meth c A ls Q hret hname hF hP hD hA hV hR0 hn hPL hnl hl h hS
  have hx := hF.1
  have hb := hF.2.1
  have hml := hF.2.2.1
  have hown : s.vm.findClass RX6 = some m.cls := hF.2.2.2.1
  have htc := hF.2.2.2.2
  have hP : va_P D vwCl [(a_p3, .inl (cI, 60, .inl c_p3)), (a_p4_letters, .inl (cI, 4, .inl c_p4_letters)), (a_p4_ranks, .inl (cJ, 60, .inr (.inl c_p4_ranks))), (a_p4_sizes, .inl (cI, 60, .inl c_p4_sizes))] s.heap := hP
  have hD : va_D A [(a_p3, .inl (cI, 60, .inl c_p3)), (a_p4_letters, .inl (cI, 4, .inl c_p4_letters)), (a_p4_ranks, .inl (cJ, 60, .inr (.inl c_p4_ranks))), (a_p4_sizes, .inl (cI, 60, .inl c_p4_sizes))] := hD
  have hR0 : va_P D vwCl [(a_this, .inr (5, [.int f_this_number, .int f_this_width, .long f_this_size, .int f_this_n, .int f_this_order])), (a_p4, .inr (2, [.ref a_p4_binomials, .ref a_p4_partitionCounts, .ref a_p4_treeCounts, .ref a_p4_sizes, .ref a_p4_starts, .ref a_p4_ranks, .ref a_p4_letters])), (a_p4_binomials, .inl (cJ, 1891, .inr (.inl c_p4_binomials))), (a_p4_partitionCounts, .inl (cI, 1891, .inl c_p4_partitionCounts)), (a_p4_treeCounts, .inl (cJ, 31, .inr (.inl c_p4_treeCounts)))] s.heap := hR0
  have hR := hR0
  have hl : lv_has ls 11 [(0, .ref a_this), (1, .long v_p1), (3, .ref a_p3), (4, .ref a_p4)] := hl
  unfold fX6_lay at h
  refine lv_aload_n hx hb dX6_lay_0 rfl (lv_at hl 0 rfl) ?_
  refine va_get (D := D) (ci := 5) (v := .int f_this_order) (C := RX6) (T := TX6) (N := 5) hx hb htc inX6 hown hV.1 hR 0 rfl rfl 4 (by decide) (htc _ w_1_118) (fun _ h9 => h9) rfl dX6_lay_1 ?_
  refine lv_if_ne (tgt := 16) hx hb dX6_lay_4 (by decide) (fun hc1 => ?_) (fun hc1 => ?_)
  · have h := rk_if hc1 h
    refine lv_lload_n hx hb dX6_lay_16 rfl (lv_at hl 1 rfl) ?_
    refine lv_lstore (lv' := [(5, .long v_p1), (0, .ref a_this), (1, .long v_p1), (3, .ref a_p3), (4, .ref a_p4)]) hx hb dX6_lay_17 hl (by decide) rfl (fun ls hl => ?_)
    refine lv_aload_n hx hb dX6_lay_19 rfl (lv_at hl 1 rfl) ?_
    refine va_get (D := D) (ci := 5) (v := .int f_this_width) (C := RX6) (T := TX6) (N := 5) hx hb htc inX6 hown hV.1 hR 0 rfl rfl 1 (by decide) (htc _ w_1_127) (fun _ h9 => u_same (htc _ w_1_128) _ h9) rfl dX6_lay_20 ?_
    refine lv_iconst (v := 1) hx hb dX6_lay_23 (by decide) ?_
    refine lv_isub hx hb dX6_lay_24 ?_
    refine lv_istore (lv' := [(7, .int (f_this_width - (1 : Int32))), (5, .long v_p1), (0, .ref a_this), (1, .long v_p1), (3, .ref a_p3), (4, .ref a_p4)]) hx hb dX6_lay_25 hl (by decide) rfl (fun ls hl => ?_)
    refine lv_aload_n hx hb dX6_lay_27 rfl (lv_at hl 2 rfl) ?_
    refine va_get (D := D) (ci := 5) (v := .int f_this_n) (C := RX6) (T := TX6) (N := 5) hx hb htc inX6 hown hV.1 hR 0 rfl rfl 3 (by decide) (htc _ w_1_117) (fun _ h9 => h9) rfl dX6_lay_28 ?_
    refine lv_iconst (v := 1) hx hb dX6_lay_31 (by decide) ?_
    refine lv_isub hx hb dX6_lay_32 ?_
    refine lv_istore (lv' := [(8, .int (f_this_n - (1 : Int32))), (7, .int (f_this_width - (1 : Int32))), (5, .long v_p1), (0, .ref a_this), (1, .long v_p1), (3, .ref a_p3), (4, .ref a_p4)]) hx hb dX6_lay_33 hl (by decide) rfl (fun ls hl => ?_)
    have L35 : ∀ (n35 : Nat) (b35_l5 : Int64) (b35_l7 : Int32) (b35_l8 : Int32) (b35_c_p3 : Nat → Int32), rk_it4 (fX6_lay_L35 f_this_order c_p4_letters c_p4_ranks c_p4_sizes c_p4_binomials) n35 b35_l5 b35_l7 b35_l8 b35_c_p3 = some r0 → ∀ (H : Heap) (locs : List Loc), va_P D vwCl [(a_p3, .inl (cI, 60, .inl b35_c_p3)), (a_p4_letters, .inl (cI, 4, .inl c_p4_letters)), (a_p4_ranks, .inl (cJ, 60, .inr (.inl c_p4_ranks))), (a_p4_sizes, .inl (cI, 60, .inl c_p4_sizes))] H → va_D A [(a_p3, .inl (cI, 60, .inl b35_c_p3)), (a_p4_letters, .inl (cI, 4, .inl c_p4_letters)), (a_p4_ranks, .inl (cJ, 60, .inr (.inl c_p4_ranks))), (a_p4_sizes, .inl (cI, 60, .inl c_p4_sizes))] → va_S A s.heap H locs → ∀ (ls : Array Slot), lv_has ls 11 [(0, .ref a_this), (3, .ref a_p3), (4, .ref a_p4), (5, .long b35_l5), (7, .int b35_l7), (8, .int b35_l8)] → W p l e rmX6_lay s m args below meth c H locs 0 0 Q (F0 m 35 ls []) := by
      intro n35
      induction n35 with
      | zero => intro b35_l5 b35_l7 b35_l8 b35_c_p3 h; exact rk_no h
      | succ n35 ih35 =>
        intro b35_l5 b35_l7 b35_l8 b35_c_p3 h H locs hP hD hS ls hl
        have h : fX6_lay_L35 f_this_order c_p4_letters c_p4_ranks c_p4_sizes c_p4_binomials (rk_it4 (fX6_lay_L35 f_this_order c_p4_letters c_p4_ranks c_p4_sizes c_p4_binomials) n35) b35_l5 b35_l7 b35_l8 b35_c_p3 = some r0 := h
        unfold fX6_lay_L35 at h
        have hR := rk_keep hR0 hn hS
        refine lv_iload hx hb dX6_lay_35 (lv_at hl 5 rfl) ?_
        refine lv_if_lt (tgt := 119) hx hb dX6_lay_37 (by decide) (fun hc2 => ?_) (fun hc2 => ?_)
        · have h := rk_if hc2 h
          exact hret (b35_c_p3, c_p4_letters, c_p4_ranks, c_p4_sizes) _ _ _ _ h dX6_lay_119 hP hD hS
        · have h := rk_nif hc2 h
          refine lv_iload hx hb dX6_lay_40 (lv_at hl 4 rfl) ?_
          refine lv_if_lt (tgt := 119) hx hb dX6_lay_42 (by decide) (fun hc3 => ?_) (fun hc3 => ?_)
          · have h := rk_if hc3 h
            exact hret (b35_c_p3, c_p4_letters, c_p4_ranks, c_p4_sizes) _ _ _ _ h dX6_lay_119 hP hD hS
          · have h := rk_nif hc3 h
            refine lv_aload hx hb dX6_lay_45 (lv_at hl 2 rfl) ?_
            refine lv_iload hx hb dX6_lay_47 (lv_at hl 5 rfl) ?_
            refine lv_iload hx hb dX6_lay_49 (lv_at hl 4 rfl) ?_
            refine lv_iconst (v := 1) hx hb dX6_lay_51 (by decide) ?_
            refine lv_iadd hx hb dX6_lay_52 ?_
            obtain ⟨r_53, hc_53, h⟩ := rk_bd h
            refine rk_l (wr := [(a_p3, .inl (cI, 60, .inl b35_c_p3)), (a_p4_letters, .inl (cI, 4, .inl c_p4_letters)), (a_p4_ranks, .inl (cJ, 60, .inr (.inl c_p4_ranks))), (a_p4_sizes, .inl (cI, 60, .inl c_p4_sizes))]) (va_runVN (C := RX2) (As := [.int b35_l8, .int (b35_l7 + (1 : Int32))]) (rest := []) hF (mtX2_binomial l D cI cJ cO PL _ a_p4 a_p4_binomials a_p4_partitionCounts a_p4_treeCounts a_p4_sizes a_p4_starts a_p4_ranks a_p4_letters c_p4_binomials b35_l8 (b35_l7 + (1 : Int32)) r_53 hc_53) ⟨va_cnB 2 htc (rk_gw w_1_175) rfl rfl rfl (hV.2.1 _ nw_2_11) (htc _ w_1_2) (by decide +kernel) ⟨(Nat.le_of_ble_eq_true rfl), (Nat.le_of_ble_eq_true rfl)⟩, htc _ w_1_174, htc _ ws_0⟩ (rk_preV (va_recv hV.1 hR (ci := 2) (q0 := 1) rfl rfl) (rk_preS hP hD hS hR hn hPL hnl hV [] [(false, 1), (false, 2)] rfl (by decide) rfl (by decide))) rfl rfl hl.1 rfl (lv_room (Nat.le_of_ble_eq_true rfl)) dX6_lay_53 ⟨(Nat.le_of_ble_eq_true rfl), (Nat.le_of_ble_eq_true rfl)⟩) hP hD hS hA hR0 hn [] [0, 1, 2, 3] rfl rfl (by decide) (by decide) (fun H locs hP hD hS hR => ?_)
            have hP : va_P D vwCl [(a_p3, .inl (cI, 60, .inl b35_c_p3)), (a_p4_letters, .inl (cI, 4, .inl c_p4_letters)), (a_p4_ranks, .inl (cJ, 60, .inr (.inl c_p4_ranks))), (a_p4_sizes, .inl (cI, 60, .inl c_p4_sizes))] H := hP
            have hD : va_D A [(a_p3, .inl (cI, 60, .inl b35_c_p3)), (a_p4_letters, .inl (cI, 4, .inl c_p4_letters)), (a_p4_ranks, .inl (cJ, 60, .inr (.inl c_p4_ranks))), (a_p4_sizes, .inl (cI, 60, .inl c_p4_sizes))] := hD
            refine lv_lstore (lv' := [(9, .long r_53), (0, .ref a_this), (3, .ref a_p3), (4, .ref a_p4), (5, .long b35_l5), (7, .int b35_l7), (8, .int b35_l8)]) hx hb dX6_lay_56 hl (by decide) rfl (fun ls hl => ?_)
            refine lv_lload hx hb dX6_lay_58 (lv_at hl 4 rfl) ?_
            refine lv_lload hx hb dX6_lay_60 (lv_at hl 0 rfl) ?_
            have B113 : ∀ (b113_l5 : Int64) (b113_l7 : Int32) (b113_c_p3 : Nat → Int32), fX6_lay_B113 b35_l8 (rk_it4 (fX6_lay_L35 f_this_order c_p4_letters c_p4_ranks c_p4_sizes c_p4_binomials) n35) b113_l5 b113_l7 b113_c_p3 = some r0 → ∀ (H : Heap) (locs : List Loc), va_P D vwCl [(a_p3, .inl (cI, 60, .inl b113_c_p3)), (a_p4_letters, .inl (cI, 4, .inl c_p4_letters)), (a_p4_ranks, .inl (cJ, 60, .inr (.inl c_p4_ranks))), (a_p4_sizes, .inl (cI, 60, .inl c_p4_sizes))] H → va_D A [(a_p3, .inl (cI, 60, .inl b113_c_p3)), (a_p4_letters, .inl (cI, 4, .inl c_p4_letters)), (a_p4_ranks, .inl (cJ, 60, .inr (.inl c_p4_ranks))), (a_p4_sizes, .inl (cI, 60, .inl c_p4_sizes))] → va_S A s.heap H locs → ∀ (ls : Array Slot), lv_has ls 11 [(0, .ref a_this), (3, .ref a_p3), (4, .ref a_p4), (5, .long b113_l5), (7, .int b113_l7), (8, .int b35_l8)] → W p l e rmX6_lay s m args below meth c H locs 0 0 Q (F0 m 113 ls []) := by
              intro b113_l5 b113_l7 b113_c_p3 h H locs hP hD hS ls hl
              unfold fX6_lay_B113 at h
              have hR := rk_keep hR0 hn hS
              refine lv_iinc (v := (b35_l8 + (-1))) (lv' := [(8, .int (b35_l8 + (-1))), (0, .ref a_this), (3, .ref a_p3), (4, .ref a_p4), (5, .long b113_l5), (7, .int b113_l7)]) hx hb dX6_lay_113 hl (k := 5) rfl rfl (by decide) rfl (fun ls hl => ?_)
              refine lv_goto (tgt := 35) hx hb dX6_lay_116 (by decide) ?_
              exact ih35 b113_l5 b113_l7 (b35_l8 + (-1)) b113_c_p3 h _ _ hP hD hS _ (lv_sub hl [1, 2, 3, 4, 5, 0] rfl)
            refine rk_lclt (tgt := 113) hx hb dX6_lay_62 dX6_lay_63 (by decide) (fun hc4 => ?_) (fun hc4 => ?_)
            · have h := rk_if hc4 h
              exact B113 b35_l5 b35_l7 b35_c_p3 h _ _ hP hD hS _ (lv_sub hl [1, 2, 3, 4, 5, 6] rfl)
            · have h := rk_nif hc4 h
              refine lv_aload_n hx hb dX6_lay_66 rfl (lv_at hl 2 rfl) ?_
              refine lv_iload hx hb dX6_lay_67 (lv_at hl 5 rfl) ?_
              refine lv_iload hx hb dX6_lay_69 (lv_at hl 6 rfl) ?_
              obtain ⟨r_71, hc_71, h⟩ := rk_bd h
              refine rk_v (wr := [(a_p4_letters, .inl (cI, 4, .inl c_p4_letters)), (a_p4_ranks, .inl (cJ, 60, .inr (.inl c_p4_ranks))), (a_p4_sizes, .inl (cI, 60, .inl c_p4_sizes))]) (va_runSN (As := [.ref a_p3, .int b35_l7, .int b35_l8]) (rest := []) hF (mtX9_set l D cI cJ cO PL _ a_p3 60 b35_c_p3 b35_l7 b35_l8 r_71 hc_71) ⟨va_cnB 3 htc (rk_gw w_1_46) rfl rfl rfl (hV.2.1 _ nw_2_12) (htc _ w_1_1) (by decide +kernel) ⟨(Nat.le_of_ble_eq_true rfl), (Nat.le_of_ble_eq_true rfl)⟩, htc _ w_1_45, trivial⟩ (rk_preS hP hD hS hR hn hPL hnl hV [0] [] rfl (by decide) rfl (by decide)) rfl rfl hl.1 rfl (lv_room (Nat.le_of_ble_eq_true rfl)) dX6_lay_71 ⟨(Nat.le_of_ble_eq_true rfl), (Nat.le_of_ble_eq_true rfl)⟩) hP hD hS hA hR0 hn [0] [1, 2, 3] rfl rfl (by decide) (by decide) (fun H locs hP hD hS hR => ?_)
              have hP : va_P D vwCl [(a_p4_letters, .inl (cI, 4, .inl c_p4_letters)), (a_p4_ranks, .inl (cJ, 60, .inr (.inl c_p4_ranks))), (a_p4_sizes, .inl (cI, 60, .inl c_p4_sizes)), (a_p3, .inl (cI, 60, .inl r_71))] H := hP
              have hD : va_D A [(a_p4_letters, .inl (cI, 4, .inl c_p4_letters)), (a_p4_ranks, .inl (cJ, 60, .inr (.inl c_p4_ranks))), (a_p4_sizes, .inl (cI, 60, .inl c_p4_sizes)), (a_p3, .inl (cI, 60, .inl r_71))] := hD
              refine lv_aload_n hx hb dX6_lay_74 rfl (lv_at hl 1 rfl) ?_
              refine va_get (D := D) (ci := 5) (v := .int f_this_order) (C := RX6) (T := TX6) (N := 5) hx hb htc inX6 hown hV.1 hR 0 rfl rfl 4 (by decide) (htc _ w_1_118) (fun _ h9 => h9) rfl dX6_lay_75 ?_
              refine lv_iconst (v := 2) hx hb dX6_lay_78 (by decide) ?_
              have B108 : ∀ (b108_t0 : Int64), fX6_lay_B108 b35_l7 b35_l8 (rk_it4 (fX6_lay_L35 f_this_order c_p4_letters c_p4_ranks c_p4_sizes c_p4_binomials) n35) r_71 b108_t0 = some r0 → ∀ (H : Heap) (locs : List Loc), va_P D vwCl [(a_p4_letters, .inl (cI, 4, .inl c_p4_letters)), (a_p4_ranks, .inl (cJ, 60, .inr (.inl c_p4_ranks))), (a_p4_sizes, .inl (cI, 60, .inl c_p4_sizes)), (a_p3, .inl (cI, 60, .inl r_71))] H → va_D A [(a_p4_letters, .inl (cI, 4, .inl c_p4_letters)), (a_p4_ranks, .inl (cJ, 60, .inr (.inl c_p4_ranks))), (a_p4_sizes, .inl (cI, 60, .inl c_p4_sizes)), (a_p3, .inl (cI, 60, .inl r_71))] → va_S A s.heap H locs → ∀ (ls : Array Slot), lv_has ls 11 [(0, .ref a_this), (3, .ref a_p3), (4, .ref a_p4), (7, .int b35_l7), (8, .int b35_l8)] → W p l e rmX6_lay s m args below meth c H locs 0 0 Q (F0 m 108 ls [.long b108_t0]) := by
                intro b108_t0 h H locs hP hD hS ls hl
                unfold fX6_lay_B108 at h
                have hR := rk_keep hR0 hn hS
                refine lv_lstore (lv' := [(5, .long b108_t0), (0, .ref a_this), (3, .ref a_p3), (4, .ref a_p4), (7, .int b35_l7), (8, .int b35_l8)]) hx hb dX6_lay_108 hl (by decide) rfl (fun ls hl => ?_)
                refine lv_iinc (v := (b35_l7 + (-1))) (lv' := [(7, .int (b35_l7 + (-1))), (5, .long b108_t0), (0, .ref a_this), (3, .ref a_p3), (4, .ref a_p4), (8, .int b35_l8)]) hx hb dX6_lay_110 hl (k := 4) rfl rfl (by decide) rfl (fun ls hl => ?_)
                exact B113 b108_t0 (b35_l7 + (-1)) r_71 h _ _ (hP.sub [3, 0, 1, 2] rfl) (hD.sub [3, 0, 1, 2] (by decide) rfl) hS _ (lv_sub hl [2, 3, 4, 1, 0, 5] rfl)
              refine lv_icmp_ne (tgt := 103) hx hb dX6_lay_79 (by decide) (fun hc5 => ?_) (fun hc5 => ?_)
              · have h := rk_if hc5 h
                refine lv_lload hx hb dX6_lay_103 (lv_at hl 4 rfl) ?_
                refine lv_lload hx hb dX6_lay_105 (lv_at hl 0 rfl) ?_
                refine lv_lsub hx hb dX6_lay_107 ?_
                exact B108 (b35_l5 - r_53) h _ _ hP hD hS _ (lv_sub hl [1, 2, 3, 5, 6] rfl)
              · have h := rk_nnif hc5 h
                refine lv_aload hx hb dX6_lay_82 (lv_at hl 3 rfl) ?_
                refine lv_iload hx hb dX6_lay_84 (lv_at hl 6 rfl) ?_
                refine lv_iconst (v := 1) hx hb dX6_lay_86 (by decide) ?_
                refine lv_iadd hx hb dX6_lay_87 ?_
                refine lv_iload hx hb dX6_lay_88 (lv_at hl 5 rfl) ?_
                refine lv_iconst (v := 1) hx hb dX6_lay_90 (by decide) ?_
                refine lv_iadd hx hb dX6_lay_91 ?_
                obtain ⟨r_92, hc_92, h⟩ := rk_bd h
                refine rk_l (wr := [(a_p4_letters, .inl (cI, 4, .inl c_p4_letters)), (a_p4_ranks, .inl (cJ, 60, .inr (.inl c_p4_ranks))), (a_p4_sizes, .inl (cI, 60, .inl c_p4_sizes)), (a_p3, .inl (cI, 60, .inl r_71))]) (va_runVN (C := RX2) (As := [.int (b35_l8 + (1 : Int32)), .int (b35_l7 + (1 : Int32))]) (rest := []) hF (mtX2_binomial l D cI cJ cO PL _ a_p4 a_p4_binomials a_p4_partitionCounts a_p4_treeCounts a_p4_sizes a_p4_starts a_p4_ranks a_p4_letters c_p4_binomials (b35_l8 + (1 : Int32)) (b35_l7 + (1 : Int32)) r_92 hc_92) ⟨va_cnB 2 htc (rk_gw w_1_175) rfl rfl rfl (hV.2.1 _ nw_2_11) (htc _ w_1_2) (by decide +kernel) ⟨(Nat.le_of_ble_eq_true rfl), (Nat.le_of_ble_eq_true rfl)⟩, htc _ w_1_174, htc _ ws_0⟩ (rk_preV (va_recv hV.1 hR (ci := 2) (q0 := 1) rfl rfl) (rk_preS hP hD hS hR hn hPL hnl hV [] [(false, 1), (false, 2)] rfl (by decide) rfl (by decide))) rfl rfl hl.1 rfl (lv_room (Nat.le_of_ble_eq_true rfl)) dX6_lay_92 ⟨(Nat.le_of_ble_eq_true rfl), (Nat.le_of_ble_eq_true rfl)⟩) hP hD hS hA hR0 hn [] [0, 1, 2, 3] rfl rfl (by decide) (by decide) (fun H locs hP hD hS hR => ?_)
                have hP : va_P D vwCl [(a_p4_letters, .inl (cI, 4, .inl c_p4_letters)), (a_p4_ranks, .inl (cJ, 60, .inr (.inl c_p4_ranks))), (a_p4_sizes, .inl (cI, 60, .inl c_p4_sizes)), (a_p3, .inl (cI, 60, .inl r_71))] H := hP
                have hD : va_D A [(a_p4_letters, .inl (cI, 4, .inl c_p4_letters)), (a_p4_ranks, .inl (cJ, 60, .inr (.inl c_p4_ranks))), (a_p4_sizes, .inl (cI, 60, .inl c_p4_sizes)), (a_p3, .inl (cI, 60, .inl r_71))] := hD
                refine lv_lconst (v := 1) hx hb dX6_lay_95 (by decide) ?_
                refine lv_lsub hx hb dX6_lay_96 ?_
                refine lv_lload hx hb dX6_lay_97 (lv_at hl 4 rfl) ?_
                refine lv_lsub hx hb dX6_lay_99 ?_
                refine lv_goto (tgt := 108) hx hb dX6_lay_100 (by decide) ?_
                exact B108 ((r_92 - (1 : Int64)) - b35_l5) h _ _ hP hD hS _ (lv_sub hl [1, 2, 3, 5, 6] rfl)
    exact L35 FU v_p1 (f_this_width - (1 : Int32)) (f_this_n - (1 : Int32)) c_p3 h _ _ hP hD hS _ (lv_sub hl [3, 5, 6, 2, 1, 0] rfl)
  · have h := rk_nnif hc1 h
    refine lv_aload_n hx hb dX6_lay_7 rfl (lv_at hl 0 rfl) ?_
    refine lv_lload_n hx hb dX6_lay_8 rfl (lv_at hl 1 rfl) ?_
    refine lv_aload_n hx hb dX6_lay_9 rfl (lv_at hl 2 rfl) ?_
    refine lv_aload hx hb dX6_lay_10 (lv_at hl 3 rfl) ?_
    obtain ⟨r_12, hc_12, h⟩ := rk_bd h
    refine rk_v (wr := [(a_p4_letters, .inl (cI, 4, .inl c_p4_letters)), (a_p4_ranks, .inl (cJ, 60, .inr (.inl c_p4_ranks))), (a_p4_sizes, .inl (cI, 60, .inl c_p4_sizes))]) (va_runV (C := RX6) (As := [.long v_p1, .ref a_p3, .ref a_p4]) (rest := []) hF (mtX6_layLexicographic l D cI cJ cO PL _ a_p3 c_p3 a_this f_this_number f_this_width f_this_size f_this_n f_this_order a_p4 a_p4_binomials a_p4_partitionCounts a_p4_treeCounts a_p4_sizes a_p4_starts a_p4_ranks a_p4_letters c_p4_binomials v_p1 r_12 hc_12) (cwV 3 htc (rk_gV w_2_7 w_2_9 ws_8 w_1_6 w_2_10) rfl rfl rfl (by decide +kernel) ⟨(Nat.le_of_ble_eq_true rfl), (Nat.le_of_ble_eq_true rfl)⟩) (rk_preV (va_recv hV.1 hR (ci := 5) (q0 := 0) rfl rfl) (rk_preS hP hD hS hR hn hPL hnl hV [0] [(false, 0), (false, 1), (false, 2)] rfl (by decide) rfl (by decide))) rfl rfl hl.1 rfl (lv_room (Nat.le_of_ble_eq_true rfl)) dX6_lay_12 ⟨(Nat.le_of_ble_eq_true rfl), (Nat.le_of_ble_eq_true rfl)⟩) hP hD hS hA hR0 hn [0] [1, 2, 3] rfl rfl (by decide) (by decide) (fun H locs hP hD hS hR => ?_)
    have hP : va_P D vwCl [(a_p4_letters, .inl (cI, 4, .inl c_p4_letters)), (a_p4_ranks, .inl (cJ, 60, .inr (.inl c_p4_ranks))), (a_p4_sizes, .inl (cI, 60, .inl c_p4_sizes)), (a_p3, .inl (cI, 60, .inl r_12))] H := hP
    have hD : va_D A [(a_p4_letters, .inl (cI, 4, .inl c_p4_letters)), (a_p4_ranks, .inl (cJ, 60, .inr (.inl c_p4_ranks))), (a_p4_sizes, .inl (cI, 60, .inl c_p4_sizes)), (a_p3, .inl (cI, 60, .inl r_12))] := hD
    exact hret (r_12, c_p4_letters, c_p4_ranks, c_p4_sizes) _ _ _ _ h dX6_lay_15 (hP.sub [3, 0, 1, 2] rfl) (hD.sub [3, 0, 1, 2] (by decide) rfl) hS
set_option maxHeartbeats 4000000 in
set_option maxRecDepth 100000 in
theorem mtX6_turn (l : Launch) (D : va_G) (cI cJ cO : ClassId) (PL : va_W) (sz : Nat) (a_p2 : Nat) (c_p2 : Nat → Int32) (a_this : Nat) (f_this_number : Int32) (f_this_width : Int32) (f_this_size : Int64) (f_this_n : Int32) (f_this_order : Int32) (a_p1 : Nat) (c_p1 : Nat → Int32) (a_p3 : Nat) (a_p3_binomials : Nat) (a_p3_partitionCounts : Nat) (a_p3_treeCounts : Nat) (a_p3_sizes : Nat) (a_p3_starts : Nat) (a_p3_ranks : Nat) (a_p3_letters : Nat) (c_p3_sizes : Nat → Int32) (c_p3_starts : Nat → Int32) (r0 : (Nat → Int32) × (Nat → Int32) × (Nat → Int32)) (h : fX6_turn c_p2 f_this_width f_this_n c_p1 c_p3_sizes c_p3_starts = some r0) : Met l yX6_turn (rk_w yX6_turn cX6_turn 7 none) rmX6_turn (va_Pc [.ref a_this, .ref a_p1, .ref a_p2, .ref a_p3] (rk_B D (rk_TY cI cJ cO) [(a_p2, .inl (cI, 60, .inl c_p2)), (a_p3_sizes, .inl (cI, 60, .inl c_p3_sizes)), (a_p3_starts, .inl (cI, 60, .inl c_p3_starts))] [(a_this, .inr (5, [.int f_this_number, .int f_this_width, .long f_this_size, .int f_this_n, .int f_this_order])), (a_p1, .inl (cI, 60, .inl c_p1)), (a_p3, .inr (2, [.ref a_p3_binomials, .ref a_p3_partitionCounts, .ref a_p3_treeCounts, .ref a_p3_sizes, .ref a_p3_starts, .ref a_p3_ranks, .ref a_p3_letters]))] PL sz)) (rk_Qv D [(a_p2, .inl (cI, 60, .inl r0.1)), (a_p3_sizes, .inl (cI, 60, .inl r0.2.1)), (a_p3_starts, .inl (cI, 60, .inl r0.2.2))] [(a_p2, .inl (cI, 60, .inl c_p2)), (a_p3_sizes, .inl (cI, 60, .inl c_p3_sizes)), (a_p3_starts, .inl (cI, 60, .inl c_p3_starts))] sz) 0 0 (va_A [(a_p2, .inl (cI, 60, .inl c_p2)), (a_p3_sizes, .inl (cI, 60, .inl c_p3_sizes)), (a_p3_starts, .inl (cI, 60, .inl c_p3_starts))] sz) := by
  refine rk_metv h (fun x => [(a_p2, .inl (cI, 60, .inl x.1)), (a_p3_sizes, .inl (cI, 60, .inl x.2.1)), (a_p3_starts, .inl (cI, 60, .inl x.2.2))]) (by decide) (Nat.le_of_ble_eq_true rfl) ?_
  intro p e s m args below meth c A ls Q hret hname hF hP hD hA hV hR0 hn hPL hnl hl h hS
  have hx := hF.1
  have hb := hF.2.1
  have hml := hF.2.2.1
  have hown : s.vm.findClass RX6 = some m.cls := hF.2.2.2.1
  have htc := hF.2.2.2.2
  have hP : va_P D vwCl [(a_p2, .inl (cI, 60, .inl c_p2)), (a_p3_sizes, .inl (cI, 60, .inl c_p3_sizes)), (a_p3_starts, .inl (cI, 60, .inl c_p3_starts))] s.heap := hP
  have hD : va_D A [(a_p2, .inl (cI, 60, .inl c_p2)), (a_p3_sizes, .inl (cI, 60, .inl c_p3_sizes)), (a_p3_starts, .inl (cI, 60, .inl c_p3_starts))] := hD
  have hR0 : va_P D vwCl [(a_this, .inr (5, [.int f_this_number, .int f_this_width, .long f_this_size, .int f_this_n, .int f_this_order])), (a_p1, .inl (cI, 60, .inl c_p1)), (a_p3, .inr (2, [.ref a_p3_binomials, .ref a_p3_partitionCounts, .ref a_p3_treeCounts, .ref a_p3_sizes, .ref a_p3_starts, .ref a_p3_ranks, .ref a_p3_letters]))] s.heap := hR0
  have hR := hR0
  have hl : lv_has ls 7 [(0, .ref a_this), (1, .ref a_p1), (2, .ref a_p2), (3, .ref a_p3)] := hl
  unfold fX6_turn at h
  refine lv_iconst (v := 0) hx hb dX6_turn_0 (by decide) ?_
  refine lv_istore (lv' := [(4, .int (0 : Int32)), (0, .ref a_this), (1, .ref a_p1), (2, .ref a_p2), (3, .ref a_p3)]) hx hb dX6_turn_1 hl (by decide) rfl (fun ls hl => ?_)
  refine lv_iconst (v := 0) hx hb dX6_turn_3 (by decide) ?_
  refine lv_istore (lv' := [(5, .int (0 : Int32)), (4, .int (0 : Int32)), (0, .ref a_this), (1, .ref a_p1), (2, .ref a_p2), (3, .ref a_p3)]) hx hb dX6_turn_4 hl (by decide) rfl (fun ls hl => ?_)
  refine lv_iconst (v := 0) hx hb dX6_turn_6 (by decide) ?_
  refine lv_istore (lv' := [(6, .int (0 : Int32)), (5, .int (0 : Int32)), (4, .int (0 : Int32)), (0, .ref a_this), (1, .ref a_p1), (2, .ref a_p2), (3, .ref a_p3)]) hx hb dX6_turn_7 hl (by decide) rfl (fun ls hl => ?_)
  have L9 : ∀ (n9 : Nat) (b9_l4 : Int32) (b9_l5 : Int32) (b9_l6 : Int32) (b9_c_p2 : Nat → Int32), rk_it4 (fX6_turn_L9 f_this_width f_this_n c_p1 c_p3_sizes c_p3_starts) n9 b9_l4 b9_l5 b9_l6 b9_c_p2 = some r0 → ∀ (H : Heap) (locs : List Loc), va_P D vwCl [(a_p2, .inl (cI, 60, .inl b9_c_p2)), (a_p3_sizes, .inl (cI, 60, .inl c_p3_sizes)), (a_p3_starts, .inl (cI, 60, .inl c_p3_starts))] H → va_D A [(a_p2, .inl (cI, 60, .inl b9_c_p2)), (a_p3_sizes, .inl (cI, 60, .inl c_p3_sizes)), (a_p3_starts, .inl (cI, 60, .inl c_p3_starts))] → va_S A s.heap H locs → ∀ (ls : Array Slot), lv_has ls 7 [(0, .ref a_this), (1, .ref a_p1), (2, .ref a_p2), (4, .int b9_l4), (5, .int b9_l5), (6, .int b9_l6)] → W p l e rmX6_turn s m args below meth c H locs 0 0 Q (F0 m 9 ls []) := by
    intro n9
    induction n9 with
    | zero => intro b9_l4 b9_l5 b9_l6 b9_c_p2 h; exact rk_no h
    | succ n9 ih9 =>
      intro b9_l4 b9_l5 b9_l6 b9_c_p2 h H locs hP hD hS ls hl
      have h : fX6_turn_L9 f_this_width f_this_n c_p1 c_p3_sizes c_p3_starts (rk_it4 (fX6_turn_L9 f_this_width f_this_n c_p1 c_p3_sizes c_p3_starts) n9) b9_l4 b9_l5 b9_l6 b9_c_p2 = some r0 := h
      unfold fX6_turn_L9 at h
      have hR := rk_keep hR0 hn hS
      refine lv_iload hx hb dX6_turn_9 (lv_at hl 5 rfl) ?_
      refine lv_aload_n hx hb dX6_turn_11 rfl (lv_at hl 0 rfl) ?_
      refine va_get (D := D) (ci := 5) (v := .int f_this_n) (C := RX6) (T := TX6) (N := 5) hx hb htc inX6 hown hV.1 hR 0 rfl rfl 3 (by decide) (htc _ w_1_117) (fun _ h9 => h9) rfl dX6_turn_12 ?_
      refine lv_icmp_ge (tgt := 61) hx hb dX6_turn_15 (by decide) (fun hc1 => ?_) (fun hc1 => ?_)
      · have h := rk_if hc1 h
        exact hret (b9_c_p2, c_p3_sizes, c_p3_starts) _ _ _ _ h dX6_turn_61 hP hD hS
      · have h := rk_nif hc1 h
        refine lv_iload hx hb dX6_turn_18 (lv_at hl 3 rfl) ?_
        refine lv_aload_n hx hb dX6_turn_20 rfl (lv_at hl 0 rfl) ?_
        refine va_get (D := D) (ci := 5) (v := .int f_this_width) (C := RX6) (T := TX6) (N := 5) hx hb htc inX6 hown hV.1 hR 0 rfl rfl 1 (by decide) (htc _ w_1_127) (fun _ h9 => u_same (htc _ w_1_128) _ h9) rfl dX6_turn_21 ?_
        have B55 : ∀ (b55_l4 : Int32) (b55_l5 : Int32) (b55_c_p2 : Nat → Int32), fX6_turn_B55 b9_l6 (rk_it4 (fX6_turn_L9 f_this_width f_this_n c_p1 c_p3_sizes c_p3_starts) n9) b55_l4 b55_l5 b55_c_p2 = some r0 → ∀ (H : Heap) (locs : List Loc), va_P D vwCl [(a_p2, .inl (cI, 60, .inl b55_c_p2)), (a_p3_sizes, .inl (cI, 60, .inl c_p3_sizes)), (a_p3_starts, .inl (cI, 60, .inl c_p3_starts))] H → va_D A [(a_p2, .inl (cI, 60, .inl b55_c_p2)), (a_p3_sizes, .inl (cI, 60, .inl c_p3_sizes)), (a_p3_starts, .inl (cI, 60, .inl c_p3_starts))] → va_S A s.heap H locs → ∀ (ls : Array Slot), lv_has ls 7 [(0, .ref a_this), (1, .ref a_p1), (2, .ref a_p2), (4, .int b55_l4), (5, .int b55_l5), (6, .int b9_l6)] → W p l e rmX6_turn s m args below meth c H locs 0 0 Q (F0 m 55 ls []) := by
          intro b55_l4 b55_l5 b55_c_p2 h H locs hP hD hS ls hl
          unfold fX6_turn_B55 at h
          have hR := rk_keep hR0 hn hS
          refine lv_iinc (v := (b9_l6 + 1)) (lv' := [(6, .int (b9_l6 + 1)), (0, .ref a_this), (1, .ref a_p1), (2, .ref a_p2), (4, .int b55_l4), (5, .int b55_l5)]) hx hb dX6_turn_55 hl (k := 5) rfl rfl (by decide) rfl (fun ls hl => ?_)
          refine lv_goto (tgt := 9) hx hb dX6_turn_58 (by decide) ?_
          exact ih9 b55_l4 b55_l5 (b9_l6 + 1) b55_c_p2 h _ _ hP hD hS _ (lv_sub hl [1, 2, 3, 4, 5, 0] rfl)
        have B44 : fX6_turn_B44 b9_l4 b9_l5 b9_l6 b9_c_p2 (rk_it4 (fX6_turn_L9 f_this_width f_this_n c_p1 c_p3_sizes c_p3_starts) n9) = some r0 → ∀ (H : Heap) (locs : List Loc), va_P D vwCl [(a_p2, .inl (cI, 60, .inl b9_c_p2)), (a_p3_sizes, .inl (cI, 60, .inl c_p3_sizes)), (a_p3_starts, .inl (cI, 60, .inl c_p3_starts))] H → va_D A [(a_p2, .inl (cI, 60, .inl b9_c_p2)), (a_p3_sizes, .inl (cI, 60, .inl c_p3_sizes)), (a_p3_starts, .inl (cI, 60, .inl c_p3_starts))] → va_S A s.heap H locs → ∀ (ls : Array Slot), lv_has ls 7 [(0, .ref a_this), (1, .ref a_p1), (2, .ref a_p2), (4, .int b9_l4), (5, .int b9_l5), (6, .int b9_l6)] → W p l e rmX6_turn s m args below meth c H locs 0 0 Q (F0 m 44 ls []) := by
          intro  h H locs hP hD hS ls hl
          unfold fX6_turn_B44 at h
          have hR := rk_keep hR0 hn hS
          refine lv_aload_n hx hb dX6_turn_44 rfl (lv_at hl 2 rfl) ?_
          refine lv_iload hx hb dX6_turn_45 (lv_at hl 4 rfl) ?_
          refine lv_iload hx hb dX6_turn_47 (lv_at hl 5 rfl) ?_
          obtain ⟨r_49, hc_49, h⟩ := rk_bd h
          refine rk_v (wr := [(a_p3_sizes, .inl (cI, 60, .inl c_p3_sizes)), (a_p3_starts, .inl (cI, 60, .inl c_p3_starts))]) (va_runSN (As := [.ref a_p2, .int b9_l5, .int b9_l6]) (rest := []) hF (mtX9_set l D cI cJ cO PL _ a_p2 60 b9_c_p2 b9_l5 b9_l6 r_49 hc_49) ⟨va_cnB 3 htc (rk_gw w_1_46) rfl rfl rfl (hV.2.1 _ nw_2_12) (htc _ w_1_1) (by decide +kernel) ⟨(Nat.le_of_ble_eq_true rfl), (Nat.le_of_ble_eq_true rfl)⟩, htc _ w_1_45, trivial⟩ (rk_preS hP hD hS hR hn hPL hnl hV [0] [] rfl (by decide) rfl (by decide)) rfl rfl hl.1 rfl (lv_room (Nat.le_of_ble_eq_true rfl)) dX6_turn_49 ⟨(Nat.le_of_ble_eq_true rfl), (Nat.le_of_ble_eq_true rfl)⟩) hP hD hS hA hR0 hn [0] [1, 2] rfl rfl (by decide) (by decide) (fun H locs hP hD hS hR => ?_)
          have hP : va_P D vwCl [(a_p3_sizes, .inl (cI, 60, .inl c_p3_sizes)), (a_p3_starts, .inl (cI, 60, .inl c_p3_starts)), (a_p2, .inl (cI, 60, .inl r_49))] H := hP
          have hD : va_D A [(a_p3_sizes, .inl (cI, 60, .inl c_p3_sizes)), (a_p3_starts, .inl (cI, 60, .inl c_p3_starts)), (a_p2, .inl (cI, 60, .inl r_49))] := hD
          refine lv_iinc (v := (b9_l5 + 1)) (lv' := [(5, .int (b9_l5 + 1)), (0, .ref a_this), (1, .ref a_p1), (2, .ref a_p2), (4, .int b9_l4), (6, .int b9_l6)]) hx hb dX6_turn_52 hl (k := 4) rfl rfl (by decide) rfl (fun ls hl => ?_)
          exact B55 b9_l4 (b9_l5 + 1) r_49 h _ _ (hP.sub [2, 0, 1] rfl) (hD.sub [2, 0, 1] (by decide) rfl) hS _ (lv_sub hl [1, 2, 3, 4, 0, 5] rfl)
        refine lv_icmp_ge (tgt := 44) hx hb dX6_turn_24 (by decide) (fun hc2 => ?_) (fun hc2 => ?_)
        · have h := rk_if hc2 h
          exact B44  h _ _ hP hD hS _ hl
        · have h := rk_nif hc2 h
          refine lv_aload_n hx hb dX6_turn_27 rfl (lv_at hl 1 rfl) ?_
          refine lv_iload hx hb dX6_turn_28 (lv_at hl 3 rfl) ?_
          obtain ⟨r_30, hc_30, h⟩ := rk_bd h
          refine rk_i (wr := [(a_p2, .inl (cI, 60, .inl b9_c_p2)), (a_p3_sizes, .inl (cI, 60, .inl c_p3_sizes)), (a_p3_starts, .inl (cI, 60, .inl c_p3_starts))]) (va_runSN (As := [.ref a_p1, .int b9_l4]) (rest := []) hF (mtX9_at l D cI cJ cO PL _ a_p1 60 c_p1 b9_l4 r_30 hc_30) ⟨va_cnB 2 htc (rk_gw w_1_52) rfl rfl rfl (hV.2.1 _ nw_2_239) (htc _ w_1_1) (by decide +kernel) ⟨(Nat.le_of_ble_eq_true rfl), (Nat.le_of_ble_eq_true rfl)⟩, htc _ w_1_51, trivial⟩ (rk_preS hP hD hS hR hn hPL hnl hV [] [(false, 1)] rfl (by decide) rfl (by decide)) rfl rfl hl.1 rfl (lv_room (Nat.le_of_ble_eq_true rfl)) dX6_turn_30 ⟨(Nat.le_of_ble_eq_true rfl), (Nat.le_of_ble_eq_true rfl)⟩) hP hD hS hA hR0 hn [] [0, 1, 2] rfl rfl (by decide) (by decide) (fun H locs hP hD hS hR => ?_)
          have hP : va_P D vwCl [(a_p2, .inl (cI, 60, .inl b9_c_p2)), (a_p3_sizes, .inl (cI, 60, .inl c_p3_sizes)), (a_p3_starts, .inl (cI, 60, .inl c_p3_starts))] H := hP
          have hD : va_D A [(a_p2, .inl (cI, 60, .inl b9_c_p2)), (a_p3_sizes, .inl (cI, 60, .inl c_p3_sizes)), (a_p3_starts, .inl (cI, 60, .inl c_p3_starts))] := hD
          refine lv_iload hx hb dX6_turn_33 (lv_at hl 5 rfl) ?_
          refine lv_icmp_ne (tgt := 44) hx hb dX6_turn_35 (by decide) (fun hc3 => ?_) (fun hc3 => ?_)
          · have h := rk_if hc3 h
            exact B44  h _ _ hP hD hS _ hl
          · have h := rk_nnif hc3 h
            refine lv_iinc (v := (b9_l4 + 1)) (lv' := [(4, .int (b9_l4 + 1)), (0, .ref a_this), (1, .ref a_p1), (2, .ref a_p2), (5, .int b9_l5), (6, .int b9_l6)]) hx hb dX6_turn_38 hl (k := 3) rfl rfl (by decide) rfl (fun ls hl => ?_)
            refine lv_goto (tgt := 55) hx hb dX6_turn_41 (by decide) ?_
            exact B55 (b9_l4 + 1) b9_l5 b9_c_p2 h _ _ hP hD hS _ (lv_sub hl [1, 2, 3, 0, 4, 5] rfl)
  exact L9 FU (0 : Int32) (0 : Int32) (0 : Int32) c_p2 h _ _ hP hD hS _ (lv_sub hl [3, 4, 5, 2, 1, 0] rfl)
set_option maxHeartbeats 4000000 in
set_option maxRecDepth 100000 in
theorem mtX6_turnedFamily (l : Launch) (D : va_G) (cI cJ cO : ClassId) (PL : va_W) (sz : Nat) (a_this : Nat) (f_this_number : Int32) (f_this_width : Int32) (f_this_size : Int64) (f_this_n : Int32) (f_this_order : Int32) (r0 : Fm) (h : fX6_turnedFamily f_this_width f_this_size f_this_n f_this_order = some r0) : Met l yX6_turnedFamily (rk_w yX6_turnedFamily cX6_turnedFamily 1 (some (.object "EnumerativeCoder$Family"))) rmX6_turnedFamily (va_Pc [.ref a_this] (rk_B D (rk_TY cI cJ cO) [] [(a_this, .inr (5, [.int f_this_number, .int f_this_width, .long f_this_size, .int f_this_n, .int f_this_order]))] PL sz)) (rk_Qr D (fun ra => [(ra, rk_fam r0)]) [] sz) 1 5 (va_A [] sz) := by
  refine rk_metr (Or.inl ⟨_, rfl⟩) h (fun x ra => [(ra, rk_fam x)]) (by decide) (Nat.le_of_ble_eq_true rfl) ?_
  intro p e s m args below meth c A ls Q hret hname hF hP hD hA hV hR0 hn hPL hnl hl h hS
  have hx := hF.1
  have hb := hF.2.1
  have hml := hF.2.2.1
  have hown : s.vm.findClass RX6 = some m.cls := hF.2.2.2.1
  have htc := hF.2.2.2.2
  have hP : va_P D vwCl [] s.heap := hP
  have hD : va_D A [] := hD
  have hR0 : va_P D vwCl [(a_this, .inr (5, [.int f_this_number, .int f_this_width, .long f_this_size, .int f_this_n, .int f_this_order]))] s.heap := hR0
  have hR := hR0
  have hl : lv_has ls 1 [(0, .ref a_this)] := hl
  unfold fX6_turnedFamily at h
  refine va_new (ci := 5) (fs := [.int 0, .int 0, .long 0, .int 0, .int 0]) (C := RX6) (T := TX6) (N := 5) hx hb htc inX6 tyX6 tyX6_ok hown (htc _ w_3_86) (htc _ w_1_109) (htc _ w_1_6) hV.1 hP hD hS hA rfl (fun j hj => by rcases (show j = 0 ∨ j = 1 ∨ j = 2 ∨ j = 3 ∨ j = 4 by omega) with rfl | rfl | rfl | rfl | rfl <;> rfl) (Nat.le_of_ble_eq_true rfl) (Nat.le_of_ble_eq_true rfl) dX6_turnedFamily_0 (fun q_0 H hP hD hS => ?_)
  have hP : va_P D vwCl [(q_0, .inr (5, [.int 0, .int 0, .long 0, .int 0, .int 0]))] H := hP
  have hD : va_D A [(q_0, .inr (5, [.int 0, .int 0, .long 0, .int 0, .int 0]))] := hD
  have hR := rk_keep hR0 hn hS
  refine lv_dup hx hb dX6_turnedFamily_3 rfl ?_
  refine lv_aload_n hx hb dX6_turnedFamily_4 rfl (lv_at hl 0 rfl) ?_
  refine va_get (D := D) (ci := 5) (v := .int f_this_n) (C := RX6) (T := TX6) (N := 5) hx hb htc inX6 hown hV.1 hR 0 rfl rfl 3 (by decide) (htc _ w_1_117) (fun _ h9 => h9) rfl dX6_turnedFamily_5 ?_
  refine lv_aload_n hx hb dX6_turnedFamily_8 rfl (lv_at hl 0 rfl) ?_
  refine va_get (D := D) (ci := 5) (v := .int f_this_n) (C := RX6) (T := TX6) (N := 5) hx hb htc inX6 hown hV.1 hR 0 rfl rfl 3 (by decide) (htc _ w_1_117) (fun _ h9 => h9) rfl dX6_turnedFamily_9 ?_
  refine lv_aload_n hx hb dX6_turnedFamily_12 rfl (lv_at hl 0 rfl) ?_
  refine va_get (D := D) (ci := 5) (v := .int f_this_width) (C := RX6) (T := TX6) (N := 5) hx hb htc inX6 hown hV.1 hR 0 rfl rfl 1 (by decide) (htc _ w_1_127) (fun _ h9 => u_same (htc _ w_1_128) _ h9) rfl dX6_turnedFamily_13 ?_
  refine lv_isub hx hb dX6_turnedFamily_16 ?_
  refine lv_aload_n hx hb dX6_turnedFamily_17 rfl (lv_at hl 0 rfl) ?_
  refine va_get (D := D) (ci := 5) (v := .int f_this_order) (C := RX6) (T := TX6) (N := 5) hx hb htc inX6 hown hV.1 hR 0 rfl rfl 4 (by decide) (htc _ w_1_118) (fun _ h9 => h9) rfl dX6_turnedFamily_18 ?_
  refine lv_aload_n hx hb dX6_turnedFamily_21 rfl (lv_at hl 0 rfl) ?_
  refine va_get (D := D) (ci := 5) (v := .long f_this_size) (C := RX6) (T := TX6) (N := 5) hx hb htc inX6 hown hV.1 hR 0 rfl rfl 2 (by decide) (htc _ w_1_138) (fun _ h9 => u_same (htc _ w_1_139) _ h9) rfl dX6_turnedFamily_22 ?_
  obtain ⟨r_25, hc_25, h⟩ := rk_bd h
  refine rk_v (wr := []) (va_runI (As := [.int f_this_n, .int (f_this_n - f_this_width), .int f_this_order, .long f_this_size]) (rest := [.ref q_0]) hF (mtX6_init l D cI cJ cO PL _ q_0 f_this_n (f_this_n - f_this_width) f_this_order f_this_size r_25 hc_25) (cwI 4 htc (rk_gw w_1_112) rfl rfl rfl (htc _ w_1_6) (htc _ w_3_87) (htc _ w_1_111) rfl (by decide +kernel) ⟨(Nat.le_of_ble_eq_true rfl), (Nat.le_of_ble_eq_true rfl)⟩) (rk_preS hP hD hS hR hn hPL hnl hV [0] [] rfl (by decide) rfl (by decide)) rfl rfl hl.1 rfl (lv_room (Nat.le_of_ble_eq_true rfl)) dX6_turnedFamily_25 ⟨(Nat.le_of_ble_eq_true rfl), (Nat.le_of_ble_eq_true rfl)⟩) hP hD hS hA hR0 hn [0] [] rfl rfl (by decide) (by decide) (fun H locs hP hD hS hR => ?_)
  have hP : va_P D vwCl [(q_0, .inr (5, [.int r_25.1, .int r_25.2.1, .long r_25.2.2.1, .int r_25.2.2.2.1, .int r_25.2.2.2.2]))] H := hP
  have hD : va_D A [(q_0, .inr (5, [.int r_25.1, .int r_25.2.1, .long r_25.2.2.1, .int r_25.2.2.2.1, .int r_25.2.2.2.2]))] := hD
  refine W.widen (k := 1) (n := 5) (Nat.le_of_ble_eq_true rfl) (Nat.le_of_ble_eq_true rfl) ?_
  exact hret ((0, r_25.1, r_25.2.1, r_25.2.2.1, r_25.2.2.2.1, r_25.2.2.2.2, 0, 0) : Fm) q_0 _ _ _ _ h dX6_turnedFamily_28 hP hD hS
set_option maxHeartbeats 4000000 in
set_option maxRecDepth 100000 in
theorem mtX3_init_X7 (l : Launch) (D : va_G) (cI cJ cO : ClassId) (PL : va_W) (sz : Nat) (a_this : Nat) (v_p1 : Int32) (v_p2 : Int32) (v_p3 : Int64) (r0 : Int32 × Int32 × Int64) (h : fX3_init_X7 v_p1 v_p2 v_p3 = some r0) : Met l yX3_init (rk_w yX3_init cX3_init 5 none) rmX3_init_X7 (va_Pc [.ref a_this, .int v_p1, .int v_p2, .long v_p3] (rk_B D (rk_TY cI cJ cO) [(a_this, .inr (6, [.int 0, .int 0, .long 0]))] [] PL sz)) (rk_Qv D [(a_this, .inr (6, [.int r0.1, .int r0.2.1, .long r0.2.2]))] [(a_this, .inr (6, [.int 0, .int 0, .long 0]))] sz) 0 0 (va_A [(a_this, .inr (6, [.int 0, .int 0, .long 0]))] sz) := by
  refine rk_metv h (fun x => [(a_this, .inr (6, [.int x.1, .int x.2.1, .long x.2.2]))]) (by decide) (Nat.le_of_ble_eq_true rfl) ?_
  intro p e s m args below meth c A ls Q hret hname hF hP hD hA hV hR0 hn hPL hnl hl h hS
  have hx := hF.1
  have hb := hF.2.1
  have hml := hF.2.2.1
  have hown : s.vm.findClass RX3 = some m.cls := hF.2.2.2.1
  have htc := hF.2.2.2.2
  have hname : meth.name = "<init>" := hname
  have hP : va_P D vwCl [(a_this, .inr (6, [.int 0, .int 0, .long 0]))] s.heap := hP
  have hD : va_D A [(a_this, .inr (6, [.int 0, .int 0, .long 0]))] := hD
  have hR0 : va_P D vwCl [] s.heap := hR0
  have hR := hR0
  have hl : lv_has ls 5 [(0, .ref a_this), (1, .int v_p1), (2, .int v_p2), (3, .long v_p3)] := hl
  unfold fX3_init_X7 at h
  refine lv_aload_n hx hb dX3_init_0 rfl (lv_at hl 0 rfl) ?_
  refine W.objInit hx hb hown (htc _ w_1_116) (htc _ w_1_21) (htc _ w_1_22) rfl (by rw [hml]; exact hl.1) rfl dX3_init_1 (Nat.le_of_ble_eq_true rfl) (Nat.le_of_ble_eq_true rfl) ?_
  refine W.eq (g2 := F0 m 4 ls []) rfl ?_
  refine lv_aload_n hx hb dX3_init_4 rfl (lv_at hl 0 rfl) ?_
  refine lv_iload_n hx hb dX3_init_5 rfl (lv_at hl 1 rfl) ?_
  refine va_putF (D := D) (ci := 6) (v := .int v_p1) (ty := .int) (C := RX7) (T := TX7) (N := 3) hx hb htc inX7 tyX7 tyX7_ok nmX7 hown hV.1 hP hD hS 0 rfl rfl 0 (by decide) (htc _ w_1_119) (fun _ h9 => h9) rfl hname rfl (by decide +kernel) rfl rfl (Nat.le_of_ble_eq_true rfl) dX3_init_6 (fun H locs hP hD hS => ?_)
  have hP : va_P D vwCl [(a_this, .inr (6, [.int v_p1, .int 0, .long 0]))] H := hP
  have hD : va_D A [(a_this, .inr (6, [.int v_p1, .int 0, .long 0]))] := hD
  refine lv_aload_n hx hb dX3_init_9 rfl (lv_at hl 0 rfl) ?_
  refine lv_iload_n hx hb dX3_init_10 rfl (lv_at hl 2 rfl) ?_
  refine va_putF (D := D) (ci := 6) (v := .int v_p2) (ty := .int) (C := RX7) (T := TX7) (N := 3) hx hb htc inX7 tyX7 tyX7_ok nmX7 hown hV.1 hP hD hS 0 rfl rfl 1 (by decide) (htc _ w_1_122) (fun _ h9 => h9) rfl hname rfl (by decide +kernel) rfl rfl (Nat.le_of_ble_eq_true rfl) dX3_init_11 (fun H locs hP hD hS => ?_)
  have hP : va_P D vwCl [(a_this, .inr (6, [.int v_p1, .int v_p2, .long 0]))] H := hP
  have hD : va_D A [(a_this, .inr (6, [.int v_p1, .int v_p2, .long 0]))] := hD
  refine lv_aload_n hx hb dX3_init_14 rfl (lv_at hl 0 rfl) ?_
  refine lv_lload_n hx hb dX3_init_15 rfl (lv_at hl 3 rfl) ?_
  refine va_putF (D := D) (ci := 6) (v := .long v_p3) (ty := .long) (C := RX7) (T := TX7) (N := 3) hx hb htc inX7 tyX7 tyX7_ok nmX7 hown hV.1 hP hD hS 0 rfl rfl 2 (by decide) (htc _ w_1_136) (fun _ h9 => h9) rfl hname rfl (by decide +kernel) rfl rfl (Nat.le_of_ble_eq_true rfl) dX3_init_16 (fun H locs hP hD hS => ?_)
  have hP : va_P D vwCl [(a_this, .inr (6, [.int v_p1, .int v_p2, .long v_p3]))] H := hP
  have hD : va_D A [(a_this, .inr (6, [.int v_p1, .int v_p2, .long v_p3]))] := hD
  exact hret (v_p1, v_p2, v_p3) _ _ _ _ h dX3_init_19 hP hD hS
set_option maxHeartbeats 4000000 in
set_option maxRecDepth 100000 in
theorem mtX7_init (l : Launch) (D : va_G) (cI cJ cO : ClassId) (PL : va_W) (sz : Nat) (a_this : Nat) (v_p1 : Int32) (v_p2 : Int64) (r0 : Int32 × Int32 × Int64) (h : fX7_init v_p1 v_p2 = some r0) : Met l yX7_init (rk_w yX7_init cX7_init 4 none) rmX7_init (va_Pc [.ref a_this, .int v_p1, .long v_p2] (rk_B D (rk_TY cI cJ cO) [(a_this, .inr (6, [.int 0, .int 0, .long 0]))] [] PL sz)) (rk_Qv D [(a_this, .inr (6, [.int r0.1, .int r0.2.1, .long r0.2.2]))] [(a_this, .inr (6, [.int 0, .int 0, .long 0]))] sz) 0 0 (va_A [(a_this, .inr (6, [.int 0, .int 0, .long 0]))] sz) := by
  refine rk_metv h (fun x => [(a_this, .inr (6, [.int x.1, .int x.2.1, .long x.2.2]))]) (by decide) (Nat.le_of_ble_eq_true rfl) ?_
  intro p e s m args below meth c A ls Q hret hname hF hP hD hA hV hR0 hn hPL hnl hl h hS
  have hx := hF.1
  have hb := hF.2.1
  have hml := hF.2.2.1
  have hown : s.vm.findClass RX7 = some m.cls := hF.2.2.2.1
  have htc := hF.2.2.2.2
  have hname : meth.name = "<init>" := hname
  have hP : va_P D vwCl [(a_this, .inr (6, [.int 0, .int 0, .long 0]))] s.heap := hP
  have hD : va_D A [(a_this, .inr (6, [.int 0, .int 0, .long 0]))] := hD
  have hR0 : va_P D vwCl [] s.heap := hR0
  have hR := hR0
  have hl : lv_has ls 4 [(0, .ref a_this), (1, .int v_p1), (2, .long v_p2)] := hl
  unfold fX7_init at h
  refine lv_aload_n hx hb dX7_init_0 rfl (lv_at hl 0 rfl) ?_
  refine lv_iconst (v := 3) hx hb dX7_init_1 (by decide) ?_
  refine lv_iload_n hx hb dX7_init_2 rfl (lv_at hl 1 rfl) ?_
  refine lv_lload_n hx hb dX7_init_3 rfl (lv_at hl 2 rfl) ?_
  obtain ⟨r_4, hc_4, h⟩ := rk_bd h
  refine rk_v (wr := []) (va_runI (As := [.int (3 : Int32), .int v_p1, .long v_p2]) (rest := []) hF (mtX3_init_X7 l D cI cJ cO PL _ a_this (3 : Int32) v_p1 v_p2 r_4 hc_4) (cwI 3 htc (rk_gw w_1_115) rfl rfl rfl (htc _ w_1_5) (htc _ w_2_120) (htc _ w_1_114) rfl (by decide +kernel) ⟨(Nat.le_of_ble_eq_true rfl), (Nat.le_of_ble_eq_true rfl)⟩) (rk_preS hP hD hS rk_nilP hn hPL hnl hV [0] [] rfl (by decide) rfl (by decide)) rfl rfl hl.1 rfl (lv_room (Nat.le_of_ble_eq_true rfl)) dX7_init_4 ⟨(Nat.le_of_ble_eq_true rfl), (Nat.le_of_ble_eq_true rfl)⟩) hP hD hS hA hR0 hn [0] [] rfl rfl (by decide) (by decide) (fun H locs hP hD hS hR => ?_)
  have hP : va_P D vwCl [(a_this, .inr (6, [.int r_4.1, .int r_4.2.1, .long r_4.2.2]))] H := hP
  have hD : va_D A [(a_this, .inr (6, [.int r_4.1, .int r_4.2.1, .long r_4.2.2]))] := hD
  exact hret (r_4.1, r_4.2.1, r_4.2.2) _ _ _ _ h dX7_init_7 hP hD hS
set_option maxHeartbeats 4000000 in
set_option maxRecDepth 100000 in
theorem mtX7_splitSize (l : Launch) (D : va_G) (cI cJ cO : ClassId) (PL : va_W) (sz : Nat) (a_p0 : Nat) (c_p0 : Nat → Int32) (v_p1 : Int32) (v_p2 : Int32) (r0 : (Nat → Int32)) (h : fX7_splitSize c_p0 v_p1 v_p2 = some r0) : Met l yX7_splitSize (rk_w yX7_splitSize cX7_splitSize 4 none) rmX7_splitSize (va_Pc [.ref a_p0, .int v_p1, .int v_p2] (rk_B D (rk_TY cI cJ cO) [(a_p0, .inl (cI, 60, .inl c_p0))] [] PL sz)) (rk_Qv D [(a_p0, .inl (cI, 60, .inl r0))] [(a_p0, .inl (cI, 60, .inl c_p0))] sz) 0 0 (va_A [(a_p0, .inl (cI, 60, .inl c_p0))] sz) := by
  refine rk_metv h (fun x => [(a_p0, .inl (cI, 60, .inl x))]) (by decide) (Nat.le_of_ble_eq_true rfl) ?_
  intro p e s m args below meth c A ls Q hret hname hF hP hD hA hV hR0 hn hPL hnl hl h hS
  have hx := hF.1
  have hb := hF.2.1
  have hml := hF.2.2.1
  have hown : s.vm.findClass RX7 = some m.cls := hF.2.2.2.1
  have htc := hF.2.2.2.2
  have hP : va_P D vwCl [(a_p0, .inl (cI, 60, .inl c_p0))] s.heap := hP
  have hD : va_D A [(a_p0, .inl (cI, 60, .inl c_p0))] := hD
  have hR0 : va_P D vwCl [] s.heap := hR0
  have hR := hR0
  have hl : lv_has ls 4 [(0, .ref a_p0), (1, .int v_p1), (2, .int v_p2)] := hl
  unfold fX7_splitSize at h
  refine lv_aload_n hx hb dX7_splitSize_0 rfl (lv_at hl 0 rfl) ?_
  refine lv_iload_n hx hb dX7_splitSize_1 rfl (lv_at hl 1 rfl) ?_
  obtain ⟨r_2, hc_2, h⟩ := rk_bd h
  refine rk_i (wr := [(a_p0, .inl (cI, 60, .inl c_p0))]) (va_runSN (As := [.ref a_p0, .int v_p1]) (rest := []) hF (mtX9_at l D cI cJ cO PL _ a_p0 60 c_p0 v_p1 r_2 hc_2) ⟨va_cnB 2 htc (rk_gw w_1_52) rfl rfl rfl (hV.2.1 _ nw_2_18) (htc _ w_1_1) (by decide +kernel) ⟨(Nat.le_of_ble_eq_true rfl), (Nat.le_of_ble_eq_true rfl)⟩, htc _ w_1_51, trivial⟩ (rk_preS hP hD hS rk_nilP hn hPL hnl hV [] [(true, 0)] rfl (by decide) rfl (by decide)) rfl rfl hl.1 rfl (lv_room (Nat.le_of_ble_eq_true rfl)) dX7_splitSize_2 ⟨(Nat.le_of_ble_eq_true rfl), (Nat.le_of_ble_eq_true rfl)⟩) hP hD hS hA hR0 hn [] [0] rfl rfl (by decide) (by decide) (fun H locs hP hD hS hR => ?_)
  have hP : va_P D vwCl [(a_p0, .inl (cI, 60, .inl c_p0))] H := hP
  have hD : va_D A [(a_p0, .inl (cI, 60, .inl c_p0))] := hD
  refine lv_iconst (v := 1) hx hb dX7_splitSize_5 (by decide) ?_
  refine lv_isub hx hb dX7_splitSize_6 ?_
  refine lv_iload_n hx hb dX7_splitSize_7 rfl (lv_at hl 2 rfl) ?_
  refine lv_isub hx hb dX7_splitSize_8 ?_
  refine lv_istore_n (lv' := [(3, .int ((r_2 - (1 : Int32)) - v_p2)), (0, .ref a_p0), (1, .int v_p1), (2, .int v_p2)]) hx hb dX7_splitSize_9 rfl hl (by decide) rfl (fun ls hl => ?_)
  refine lv_iload_n hx hb dX7_splitSize_10 rfl (lv_at hl 3 rfl) ?_
  have B22 : ∀ (b22_c_p0 : Nat → Int32), fX7_splitSize_B22 v_p1 v_p2 r_2 b22_c_p0 = some r0 → ∀ (H : Heap) (locs : List Loc), va_P D vwCl [(a_p0, .inl (cI, 60, .inl b22_c_p0))] H → va_D A [(a_p0, .inl (cI, 60, .inl b22_c_p0))] → va_S A s.heap H locs → ∀ (ls : Array Slot), lv_has ls 4 [(0, .ref a_p0), (1, .int v_p1), (2, .int v_p2), (3, .int ((r_2 - (1 : Int32)) - v_p2))] → W p l e rmX7_splitSize s m args below meth c H locs 0 0 Q (F0 m 22 ls []) := by
    intro b22_c_p0 h H locs hP hD hS ls hl
    unfold fX7_splitSize_B22 at h
    refine lv_iload_n hx hb dX7_splitSize_22 rfl (lv_at hl 3 rfl) ?_
    refine lv_if_le (tgt := 36) hx hb dX7_splitSize_23 (by decide) (fun hc1 => ?_) (fun hc1 => ?_)
    · have h := rk_if hc1 h
      exact hret b22_c_p0 _ _ _ _ h dX7_splitSize_36 hP hD hS
    · have h := rk_nif hc1 h
      refine lv_aload_n hx hb dX7_splitSize_26 rfl (lv_at hl 0 rfl) ?_
      refine lv_iload_n hx hb dX7_splitSize_27 rfl (lv_at hl 1 rfl) ?_
      refine lv_iconst (v := 1) hx hb dX7_splitSize_28 (by decide) ?_
      refine lv_iadd hx hb dX7_splitSize_29 ?_
      refine lv_iload_n hx hb dX7_splitSize_30 rfl (lv_at hl 2 rfl) ?_
      refine lv_iadd hx hb dX7_splitSize_31 ?_
      refine lv_iload_n hx hb dX7_splitSize_32 rfl (lv_at hl 3 rfl) ?_
      obtain ⟨r_33, hc_33, h⟩ := rk_bd h
      refine rk_v (wr := []) (va_runSN (As := [.ref a_p0, .int ((v_p1 + (1 : Int32)) + v_p2), .int ((r_2 - (1 : Int32)) - v_p2)]) (rest := []) hF (mtX9_set l D cI cJ cO PL _ a_p0 60 b22_c_p0 ((v_p1 + (1 : Int32)) + v_p2) ((r_2 - (1 : Int32)) - v_p2) r_33 hc_33) ⟨va_cnB 3 htc (rk_gw w_1_46) rfl rfl rfl (hV.2.1 _ nw_2_16) (htc _ w_1_1) (by decide +kernel) ⟨(Nat.le_of_ble_eq_true rfl), (Nat.le_of_ble_eq_true rfl)⟩, htc _ w_1_45, trivial⟩ (rk_preS hP hD hS rk_nilP hn hPL hnl hV [0] [] rfl (by decide) rfl (by decide)) rfl rfl hl.1 rfl (lv_room (Nat.le_of_ble_eq_true rfl)) dX7_splitSize_33 ⟨(Nat.le_of_ble_eq_true rfl), (Nat.le_of_ble_eq_true rfl)⟩) hP hD hS hA hR0 hn [0] [] rfl rfl (by decide) (by decide) (fun H locs hP hD hS hR => ?_)
      have hP : va_P D vwCl [(a_p0, .inl (cI, 60, .inl r_33))] H := hP
      have hD : va_D A [(a_p0, .inl (cI, 60, .inl r_33))] := hD
      exact hret r_33 _ _ _ _ h dX7_splitSize_36 hP hD hS
  refine lv_if_le (tgt := 22) hx hb dX7_splitSize_11 (by decide) (fun hc2 => ?_) (fun hc2 => ?_)
  · have h := rk_if hc2 h
    exact B22 c_p0 h _ _ hP hD hS _ (lv_sub hl [1, 2, 3, 0] rfl)
  · have h := rk_nif hc2 h
    refine lv_aload_n hx hb dX7_splitSize_14 rfl (lv_at hl 1 rfl) ?_
    refine lv_iload_n hx hb dX7_splitSize_15 rfl (lv_at hl 2 rfl) ?_
    refine lv_iconst (v := 1) hx hb dX7_splitSize_16 (by decide) ?_
    refine lv_iadd hx hb dX7_splitSize_17 ?_
    refine lv_iload_n hx hb dX7_splitSize_18 rfl (lv_at hl 3 rfl) ?_
    obtain ⟨r_19, hc_19, h⟩ := rk_bd h
    refine rk_v (wr := []) (va_runSN (As := [.ref a_p0, .int (v_p1 + (1 : Int32)), .int v_p2]) (rest := []) hF (mtX9_set l D cI cJ cO PL _ a_p0 60 c_p0 (v_p1 + (1 : Int32)) v_p2 r_19 hc_19) ⟨va_cnB 3 htc (rk_gw w_1_46) rfl rfl rfl (hV.2.1 _ nw_2_16) (htc _ w_1_1) (by decide +kernel) ⟨(Nat.le_of_ble_eq_true rfl), (Nat.le_of_ble_eq_true rfl)⟩, htc _ w_1_45, trivial⟩ (rk_preS hP hD hS rk_nilP hn hPL hnl hV [0] [] rfl (by decide) rfl (by decide)) rfl rfl hl.1 rfl (lv_room (Nat.le_of_ble_eq_true rfl)) dX7_splitSize_19 ⟨(Nat.le_of_ble_eq_true rfl), (Nat.le_of_ble_eq_true rfl)⟩) hP hD hS hA hR0 hn [0] [] rfl rfl (by decide) (by decide) (fun H locs hP hD hS hR => ?_)
    have hP : va_P D vwCl [(a_p0, .inl (cI, 60, .inl r_19))] H := hP
    have hD : va_D A [(a_p0, .inl (cI, 60, .inl r_19))] := hD
    exact B22 r_19 h _ _ hP hD hS _ (lv_sub hl [1, 2, 3, 0] rfl)
set_option maxHeartbeats 4000000 in
set_option maxRecDepth 100000 in
theorem mtX7_measure (l : Launch) (D : va_G) (cI cJ cO : ClassId) (PL : va_W) (sz : Nat) (a_p2 : Nat) (c_p2 : Nat → Int32) (a_p0 : Nat) (c_p0 : Nat → Int32) (v_p1 : Int32) (r0 : Int32 × (Nat → Int32)) (h : fX7_measure c_p2 c_p0 v_p1 = some r0) : Met l yX7_measure (rk_w yX7_measure cX7_measure 6 (some .boolean)) rmX7_measure (va_Pc [.ref a_p0, .int v_p1, .ref a_p2] (rk_B D (rk_TY cI cJ cO) [(a_p2, .inl (cI, 60, .inl c_p2))] [(a_p0, .inl (cI, 60, .inl c_p0))] PL sz)) (rk_Qi r0.1 D [(a_p2, .inl (cI, 60, .inl r0.2))] [(a_p2, .inl (cI, 60, .inl c_p2))] sz) 0 0 (va_A [(a_p2, .inl (cI, 60, .inl c_p2))] sz) := by
  refine rk_metz h (fun x : Int32 × (Nat → Int32) => x.1) (fun x => [(a_p2, .inl (cI, 60, .inl x.2))]) (by decide) (Nat.le_of_ble_eq_true rfl) ?_
  intro p e s m args below meth c A ls Q hret hname hF hP hD hA hV hR0 hn hPL hnl hl h hS
  have hx := hF.1
  have hb := hF.2.1
  have hml := hF.2.2.1
  have hown : s.vm.findClass RX7 = some m.cls := hF.2.2.2.1
  have htc := hF.2.2.2.2
  have hP : va_P D vwCl [(a_p2, .inl (cI, 60, .inl c_p2))] s.heap := hP
  have hD : va_D A [(a_p2, .inl (cI, 60, .inl c_p2))] := hD
  have hR0 : va_P D vwCl [(a_p0, .inl (cI, 60, .inl c_p0))] s.heap := hR0
  have hR := hR0
  have hl : lv_has ls 6 [(0, .ref a_p0), (1, .int v_p1), (2, .ref a_p2)] := hl
  unfold fX7_measure at h
  refine lv_aload_n hx hb dX7_measure_0 rfl (lv_at hl 2 rfl) ?_
  refine lv_iconst (v := 0) hx hb dX7_measure_1 (by decide) ?_
  refine lv_iload_n hx hb dX7_measure_2 rfl (lv_at hl 1 rfl) ?_
  obtain ⟨r_3, hc_3, h⟩ := rk_bd h
  refine rk_v (wr := []) (va_runSN (As := [.ref a_p2, .int (0 : Int32), .int v_p1]) (rest := []) hF (mtX9_set l D cI cJ cO PL _ a_p2 60 c_p2 (0 : Int32) v_p1 r_3 hc_3) ⟨va_cnB 3 htc (rk_gw w_1_46) rfl rfl rfl (hV.2.1 _ nw_2_16) (htc _ w_1_1) (by decide +kernel) ⟨(Nat.le_of_ble_eq_true rfl), (Nat.le_of_ble_eq_true rfl)⟩, htc _ w_1_45, trivial⟩ (rk_preS hP hD hS hR hn hPL hnl hV [0] [] rfl (by decide) rfl (by decide)) rfl rfl hl.1 rfl (lv_room (Nat.le_of_ble_eq_true rfl)) dX7_measure_3 ⟨(Nat.le_of_ble_eq_true rfl), (Nat.le_of_ble_eq_true rfl)⟩) hP hD hS hA hR0 hn [0] [] rfl rfl (by decide) (by decide) (fun H locs hP hD hS hR => ?_)
  have hP : va_P D vwCl [(a_p2, .inl (cI, 60, .inl r_3))] H := hP
  have hD : va_D A [(a_p2, .inl (cI, 60, .inl r_3))] := hD
  refine lv_iconst (v := 0) hx hb dX7_measure_6 (by decide) ?_
  refine lv_istore_n (lv' := [(3, .int (0 : Int32)), (0, .ref a_p0), (1, .int v_p1), (2, .ref a_p2)]) hx hb dX7_measure_7 rfl hl (by decide) rfl (fun ls hl => ?_)
  have L8 : ∀ (n8 : Nat) (b8_l3 : Int32) (b8_c_p2 : Nat → Int32), rk_it2 (fX7_measure_L8 c_p0 v_p1) n8 b8_l3 b8_c_p2 = some r0 → ∀ (H : Heap) (locs : List Loc), va_P D vwCl [(a_p2, .inl (cI, 60, .inl b8_c_p2))] H → va_D A [(a_p2, .inl (cI, 60, .inl b8_c_p2))] → va_S A s.heap H locs → ∀ (ls : Array Slot), lv_has ls 6 [(0, .ref a_p0), (1, .int v_p1), (2, .ref a_p2), (3, .int b8_l3)] → W p l e rmX7_measure s m args below meth c H locs 0 0 Q (F0 m 8 ls []) := by
    intro n8
    induction n8 with
    | zero => intro b8_l3 b8_c_p2 h; exact rk_no h
    | succ n8 ih8 =>
      intro b8_l3 b8_c_p2 h H locs hP hD hS ls hl
      have h : fX7_measure_L8 c_p0 v_p1 (rk_it2 (fX7_measure_L8 c_p0 v_p1) n8) b8_l3 b8_c_p2 = some r0 := h
      unfold fX7_measure_L8 at h
      have hR := rk_keep hR0 hn hS
      refine lv_iload_n hx hb dX7_measure_8 rfl (lv_at hl 3 rfl) ?_
      refine lv_iload_n hx hb dX7_measure_9 rfl (lv_at hl 1 rfl) ?_
      refine lv_icmp_ge (tgt := 57) hx hb dX7_measure_10 (by decide) (fun hc1 => ?_) (fun hc1 => ?_)
      · have h := rk_if hc1 h
        refine lv_iconst (v := 1) hx hb dX7_measure_57 (by decide) ?_
        exact hret ((1 : Int32), b8_c_p2) _ _ _ _ h rk_nb1 dX7_measure_58 hP hD hS
      · have h := rk_nif hc1 h
        refine lv_aload_n hx hb dX7_measure_13 rfl (lv_at hl 0 rfl) ?_
        refine lv_iload_n hx hb dX7_measure_14 rfl (lv_at hl 3 rfl) ?_
        obtain ⟨r_15, hc_15, h⟩ := rk_bd h
        refine rk_i (wr := [(a_p2, .inl (cI, 60, .inl b8_c_p2))]) (va_runSN (As := [.ref a_p0, .int b8_l3]) (rest := []) hF (mtX9_at l D cI cJ cO PL _ a_p0 60 c_p0 b8_l3 r_15 hc_15) ⟨va_cnB 2 htc (rk_gw w_1_52) rfl rfl rfl (hV.2.1 _ nw_2_18) (htc _ w_1_1) (by decide +kernel) ⟨(Nat.le_of_ble_eq_true rfl), (Nat.le_of_ble_eq_true rfl)⟩, htc _ w_1_51, trivial⟩ (rk_preS hP hD hS hR hn hPL hnl hV [] [(false, 0)] rfl (by decide) rfl (by decide)) rfl rfl hl.1 rfl (lv_room (Nat.le_of_ble_eq_true rfl)) dX7_measure_15 ⟨(Nat.le_of_ble_eq_true rfl), (Nat.le_of_ble_eq_true rfl)⟩) hP hD hS hA hR0 hn [] [0] rfl rfl (by decide) (by decide) (fun H locs hP hD hS hR => ?_)
        have hP : va_P D vwCl [(a_p2, .inl (cI, 60, .inl b8_c_p2))] H := hP
        have hD : va_D A [(a_p2, .inl (cI, 60, .inl b8_c_p2))] := hD
        refine lv_istore (lv' := [(4, .int r_15), (0, .ref a_p0), (1, .int v_p1), (2, .ref a_p2), (3, .int b8_l3)]) hx hb dX7_measure_18 hl (by decide) rfl (fun ls hl => ?_)
        refine lv_aload_n hx hb dX7_measure_20 rfl (lv_at hl 3 rfl) ?_
        refine lv_iload_n hx hb dX7_measure_21 rfl (lv_at hl 4 rfl) ?_
        obtain ⟨r_22, hc_22, h⟩ := rk_bd h
        refine rk_i (wr := [(a_p2, .inl (cI, 60, .inl b8_c_p2))]) (va_runSN (As := [.ref a_p2, .int b8_l3]) (rest := []) hF (mtX9_at l D cI cJ cO PL _ a_p2 60 b8_c_p2 b8_l3 r_22 hc_22) ⟨va_cnB 2 htc (rk_gw w_1_52) rfl rfl rfl (hV.2.1 _ nw_2_18) (htc _ w_1_1) (by decide +kernel) ⟨(Nat.le_of_ble_eq_true rfl), (Nat.le_of_ble_eq_true rfl)⟩, htc _ w_1_51, trivial⟩ (rk_preS hP hD hS hR hn hPL hnl hV [] [(true, 0)] rfl (by decide) rfl (by decide)) rfl rfl hl.1 rfl (lv_room (Nat.le_of_ble_eq_true rfl)) dX7_measure_22 ⟨(Nat.le_of_ble_eq_true rfl), (Nat.le_of_ble_eq_true rfl)⟩) hP hD hS hA hR0 hn [] [0] rfl rfl (by decide) (by decide) (fun H locs hP hD hS hR => ?_)
        have hP : va_P D vwCl [(a_p2, .inl (cI, 60, .inl b8_c_p2))] H := hP
        have hD : va_D A [(a_p2, .inl (cI, 60, .inl b8_c_p2))] := hD
        refine lv_iconst (v := 1) hx hb dX7_measure_25 (by decide) ?_
        refine lv_isub hx hb dX7_measure_26 ?_
        refine lv_iload hx hb dX7_measure_27 (lv_at hl 0 rfl) ?_
        refine lv_isub hx hb dX7_measure_29 ?_
        refine lv_istore (lv' := [(5, .int ((r_22 - (1 : Int32)) - r_15)), (4, .int r_15), (0, .ref a_p0), (1, .int v_p1), (2, .ref a_p2), (3, .int b8_l3)]) hx hb dX7_measure_30 hl (by decide) rfl (fun ls hl => ?_)
        refine lv_iload hx hb dX7_measure_32 (lv_at hl 1 rfl) ?_
        refine lv_if_lt (tgt := 42) hx hb dX7_measure_34 (by decide) (fun hc2 => ?_) (fun hc2 => ?_)
        · have h := rk_if hc2 h
          refine lv_iconst (v := 0) hx hb dX7_measure_42 (by decide) ?_
          exact hret ((0 : Int32), b8_c_p2) _ _ _ _ h rk_nb0 dX7_measure_43 hP hD hS
        · have h := rk_nif hc2 h
          refine lv_iload hx hb dX7_measure_37 (lv_at hl 0 rfl) ?_
          refine lv_if_ge (tgt := 44) hx hb dX7_measure_39 (by decide) (fun hc3 => ?_) (fun hc3 => ?_)
          · have h := rk_if hc3 h
            refine lv_aload_n hx hb dX7_measure_44 rfl (lv_at hl 4 rfl) ?_
            refine lv_iload_n hx hb dX7_measure_45 rfl (lv_at hl 5 rfl) ?_
            refine lv_iload hx hb dX7_measure_46 (lv_at hl 1 rfl) ?_
            obtain ⟨r_48, hc_48, h⟩ := rk_bd h
            refine rk_v (wr := []) (va_runS (As := [.ref a_p2, .int b8_l3, .int r_15]) (rest := []) hF (mtX7_splitSize l D cI cJ cO PL _ a_p2 b8_c_p2 b8_l3 r_15 r_48 hc_48) (va_cwS 3 htc (rk_gVS w_2_24 w_2_25 w_1_10 w_2_26) rfl rfl rfl (by decide +kernel) ⟨(Nat.le_of_ble_eq_true rfl), (Nat.le_of_ble_eq_true rfl)⟩) (rk_preS hP hD hS hR hn hPL hnl hV [0] [] rfl (by decide) rfl (by decide)) rfl rfl hl.1 rfl (lv_room (Nat.le_of_ble_eq_true rfl)) dX7_measure_48 ⟨(Nat.le_of_ble_eq_true rfl), (Nat.le_of_ble_eq_true rfl)⟩) hP hD hS hA hR0 hn [0] [] rfl rfl (by decide) (by decide) (fun H locs hP hD hS hR => ?_)
            have hP : va_P D vwCl [(a_p2, .inl (cI, 60, .inl r_48))] H := hP
            have hD : va_D A [(a_p2, .inl (cI, 60, .inl r_48))] := hD
            refine lv_iinc (v := (b8_l3 + 1)) (lv' := [(3, .int (b8_l3 + 1)), (5, .int ((r_22 - (1 : Int32)) - r_15)), (4, .int r_15), (0, .ref a_p0), (1, .int v_p1), (2, .ref a_p2)]) hx hb dX7_measure_51 hl (k := 5) rfl rfl (by decide) rfl (fun ls hl => ?_)
            refine lv_goto (tgt := 8) hx hb dX7_measure_54 (by decide) ?_
            exact ih8 (b8_l3 + 1) r_48 h _ _ hP hD hS _ (lv_sub hl [3, 4, 5, 0] rfl)
          · have h := rk_nif hc3 h
            refine lv_iconst (v := 0) hx hb dX7_measure_42 (by decide) ?_
            exact hret ((0 : Int32), b8_c_p2) _ _ _ _ h rk_nb0 dX7_measure_43 hP hD hS
  exact L8 FU (0 : Int32) r_3 h _ _ hP hD hS _ (lv_sub hl [1, 2, 3, 0] rfl)
set_option maxHeartbeats 4000000 in
set_option maxRecDepth 100000 in
theorem mtX7_accepts (l : Launch) (D : va_G) (cI cJ cO : ClassId) (PL : va_W) (sz : Nat) (a_this : Nat) (f_this_number : Int32) (f_this_width : Int32) (f_this_size : Int64) (a_p1 : Nat) (c_p1 : Nat → Int32) (a_p2 : Nat) (a_p2_binomials : Nat) (a_p2_partitionCounts : Nat) (a_p2_treeCounts : Nat) (a_p2_sizes : Nat) (a_p2_starts : Nat) (a_p2_ranks : Nat) (a_p2_letters : Nat) (c_p2_letters : Nat → Int32) (c_p2_sizes : Nat → Int32) (r0 : Int32 × (Nat → Int32) × (Nat → Int32)) (h : fX7_accepts f_this_width c_p1 c_p2_letters c_p2_sizes = some r0) : Met l yX7_accepts (rk_w yX7_accepts cX7_accepts 3 (some .boolean)) rmX7_accepts (va_Pc [.ref a_this, .ref a_p1, .ref a_p2] (rk_B D (rk_TY cI cJ cO) [(a_p2_letters, .inl (cI, 4, .inl c_p2_letters)), (a_p2_sizes, .inl (cI, 60, .inl c_p2_sizes))] [(a_this, .inr (6, [.int f_this_number, .int f_this_width, .long f_this_size])), (a_p1, .inl (cI, 60, .inl c_p1)), (a_p2, .inr (2, [.ref a_p2_binomials, .ref a_p2_partitionCounts, .ref a_p2_treeCounts, .ref a_p2_sizes, .ref a_p2_starts, .ref a_p2_ranks, .ref a_p2_letters]))] PL sz)) (rk_Qi r0.1 D [(a_p2_letters, .inl (cI, 4, .inl r0.2.1)), (a_p2_sizes, .inl (cI, 60, .inl r0.2.2))] [(a_p2_letters, .inl (cI, 4, .inl c_p2_letters)), (a_p2_sizes, .inl (cI, 60, .inl c_p2_sizes))] sz) 0 0 (va_A [(a_p2_letters, .inl (cI, 4, .inl c_p2_letters)), (a_p2_sizes, .inl (cI, 60, .inl c_p2_sizes))] sz) := by
  refine rk_metz h (fun x : Int32 × (Nat → Int32) × (Nat → Int32) => x.1) (fun x => [(a_p2_letters, .inl (cI, 4, .inl x.2.1)), (a_p2_sizes, .inl (cI, 60, .inl x.2.2))]) (by decide) (Nat.le_of_ble_eq_true rfl) ?_
  intro p e s m args below meth c A ls Q hret hname hF hP hD hA hV hR0 hn hPL hnl hl h hS
  have hx := hF.1
  have hb := hF.2.1
  have hml := hF.2.2.1
  have hown : s.vm.findClass RX7 = some m.cls := hF.2.2.2.1
  have htc := hF.2.2.2.2
  have hP : va_P D vwCl [(a_p2_letters, .inl (cI, 4, .inl c_p2_letters)), (a_p2_sizes, .inl (cI, 60, .inl c_p2_sizes))] s.heap := hP
  have hD : va_D A [(a_p2_letters, .inl (cI, 4, .inl c_p2_letters)), (a_p2_sizes, .inl (cI, 60, .inl c_p2_sizes))] := hD
  have hR0 : va_P D vwCl [(a_this, .inr (6, [.int f_this_number, .int f_this_width, .long f_this_size])), (a_p1, .inl (cI, 60, .inl c_p1)), (a_p2, .inr (2, [.ref a_p2_binomials, .ref a_p2_partitionCounts, .ref a_p2_treeCounts, .ref a_p2_sizes, .ref a_p2_starts, .ref a_p2_ranks, .ref a_p2_letters]))] s.heap := hR0
  have hR := hR0
  have hl : lv_has ls 3 [(0, .ref a_this), (1, .ref a_p1), (2, .ref a_p2)] := hl
  unfold fX7_accepts at h
  refine lv_aload_n hx hb dX7_accepts_0 rfl (lv_at hl 1 rfl) ?_
  refine lv_aload_n hx hb dX7_accepts_1 rfl (lv_at hl 0 rfl) ?_
  refine va_get (D := D) (ci := 6) (v := .int f_this_width) (C := RX7) (T := TX7) (N := 3) hx hb htc inX7 hown hV.1 hR 0 rfl rfl 1 (by decide) (htc _ w_1_123) (fun _ h9 => u_same (htc _ w_1_124) _ h9) rfl dX7_accepts_2 ?_
  refine lv_aload_n hx hb dX7_accepts_5 rfl (lv_at hl 2 rfl) ?_
  refine va_getN (D := D) (ci := 2) (v := .ref a_p2_sizes) (C := RX2) (T := TX2) (N := 7) hx hb htc inX2 hown hV.1 hR 2 rfl rfl 3 (by decide) (va_Nw.use rfl (hV.2.1 _ nw_1_60)) (fun _ h9 => h9) rfl dX7_accepts_6 ?_
  obtain ⟨r_9, hc_9, h⟩ := rk_bd h
  refine rk_i (wr := [(a_p2_letters, .inl (cI, 4, .inl c_p2_letters))]) (va_runS (As := [.ref a_p1, .int f_this_width, .ref a_p2_sizes]) (rest := []) hF (mtX7_measure l D cI cJ cO PL _ a_p2_sizes c_p2_sizes a_p1 c_p1 f_this_width r_9 hc_9) (va_cwS 3 htc (rk_gVS w_3_3 w_3_4 w_1_10 w_3_5) rfl rfl rfl (by decide +kernel) ⟨(Nat.le_of_ble_eq_true rfl), (Nat.le_of_ble_eq_true rfl)⟩) (rk_preS hP hD hS hR hn hPL hnl hV [1] [(false, 1)] rfl (by decide) rfl (by decide)) rfl rfl hl.1 rfl (lv_room (Nat.le_of_ble_eq_true rfl)) dX7_accepts_9 ⟨(Nat.le_of_ble_eq_true rfl), (Nat.le_of_ble_eq_true rfl)⟩) hP hD hS hA hR0 hn [1] [0] rfl rfl (by decide) (by decide) (fun H locs hP hD hS hR => ?_)
  have hP : va_P D vwCl [(a_p2_letters, .inl (cI, 4, .inl c_p2_letters)), (a_p2_sizes, .inl (cI, 60, .inl r_9.2))] H := hP
  have hD : va_D A [(a_p2_letters, .inl (cI, 4, .inl c_p2_letters)), (a_p2_sizes, .inl (cI, 60, .inl r_9.2))] := hD
  obtain ⟨hz1, h⟩ := rk_gp h
  exact hret (r_9.1, c_p2_letters, r_9.2) _ _ _ _ h (rk_nz hz1) dX7_accepts_12 hP hD hS
set_option maxHeartbeats 4000000 in
set_option maxRecDepth 100000 in
theorem mtX7_placeOf (l : Launch) (D : va_G) (cI cJ cO : ClassId) (PL : va_W) (sz : Nat) (a_this : Nat) (f_this_number : Int32) (f_this_width : Int32) (f_this_size : Int64) (a_p1 : Nat) (c_p1 : Nat → Int32) (a_p2 : Nat) (a_p2_binomials : Nat) (a_p2_partitionCounts : Nat) (a_p2_treeCounts : Nat) (a_p2_sizes : Nat) (a_p2_starts : Nat) (a_p2_ranks : Nat) (a_p2_letters : Nat) (c_p2_letters : Nat → Int32) (c_p2_ranks : Nat → Int64) (c_p2_sizes : Nat → Int32) (c_p2_binomials : Nat → Int64) (c_p2_partitionCounts : Nat → Int32) (c_p2_treeCounts : Nat → Int64) (r0 : Int64 × (Nat → Int32) × (Nat → Int64) × (Nat → Int32)) (h : fX7_placeOf f_this_width c_p1 c_p2_letters c_p2_ranks c_p2_sizes c_p2_treeCounts = some r0) : Met l yX7_placeOf (rk_w yX7_placeOf cX7_placeOf 9 (some .long)) rmX7_placeOf (va_Pc [.ref a_this, .ref a_p1, .ref a_p2] (rk_B D (rk_TY cI cJ cO) [(a_p2_letters, .inl (cI, 4, .inl c_p2_letters)), (a_p2_ranks, .inl (cJ, 60, .inr (.inl c_p2_ranks))), (a_p2_sizes, .inl (cI, 60, .inl c_p2_sizes))] [(a_this, .inr (6, [.int f_this_number, .int f_this_width, .long f_this_size])), (a_p1, .inl (cI, 60, .inl c_p1)), (a_p2, .inr (2, [.ref a_p2_binomials, .ref a_p2_partitionCounts, .ref a_p2_treeCounts, .ref a_p2_sizes, .ref a_p2_starts, .ref a_p2_ranks, .ref a_p2_letters])), (a_p2_binomials, .inl (cJ, 1891, .inr (.inl c_p2_binomials))), (a_p2_partitionCounts, .inl (cI, 1891, .inl c_p2_partitionCounts)), (a_p2_treeCounts, .inl (cJ, 31, .inr (.inl c_p2_treeCounts)))] PL sz)) (rk_Ql r0.1 D [(a_p2_letters, .inl (cI, 4, .inl r0.2.1)), (a_p2_ranks, .inl (cJ, 60, .inr (.inl r0.2.2.1))), (a_p2_sizes, .inl (cI, 60, .inl r0.2.2.2))] [(a_p2_letters, .inl (cI, 4, .inl c_p2_letters)), (a_p2_ranks, .inl (cJ, 60, .inr (.inl c_p2_ranks))), (a_p2_sizes, .inl (cI, 60, .inl c_p2_sizes))] sz) 0 0 (va_A [(a_p2_letters, .inl (cI, 4, .inl c_p2_letters)), (a_p2_ranks, .inl (cJ, 60, .inr (.inl c_p2_ranks))), (a_p2_sizes, .inl (cI, 60, .inl c_p2_sizes))] sz) := by
  refine rk_metl h (fun x : Int64 × (Nat → Int32) × (Nat → Int64) × (Nat → Int32) => x.1) (fun x => [(a_p2_letters, .inl (cI, 4, .inl x.2.1)), (a_p2_ranks, .inl (cJ, 60, .inr (.inl x.2.2.1))), (a_p2_sizes, .inl (cI, 60, .inl x.2.2.2))]) (by decide) (Nat.le_of_ble_eq_true rfl) ?_
  intro p e s m args below meth c A ls Q hret hname hF hP hD hA hV hR0 hn hPL hnl hl h hS
  have hx := hF.1
  have hb := hF.2.1
  have hml := hF.2.2.1
  have hown : s.vm.findClass RX7 = some m.cls := hF.2.2.2.1
  have htc := hF.2.2.2.2
  have hP : va_P D vwCl [(a_p2_letters, .inl (cI, 4, .inl c_p2_letters)), (a_p2_ranks, .inl (cJ, 60, .inr (.inl c_p2_ranks))), (a_p2_sizes, .inl (cI, 60, .inl c_p2_sizes))] s.heap := hP
  have hD : va_D A [(a_p2_letters, .inl (cI, 4, .inl c_p2_letters)), (a_p2_ranks, .inl (cJ, 60, .inr (.inl c_p2_ranks))), (a_p2_sizes, .inl (cI, 60, .inl c_p2_sizes))] := hD
  have hR0 : va_P D vwCl [(a_this, .inr (6, [.int f_this_number, .int f_this_width, .long f_this_size])), (a_p1, .inl (cI, 60, .inl c_p1)), (a_p2, .inr (2, [.ref a_p2_binomials, .ref a_p2_partitionCounts, .ref a_p2_treeCounts, .ref a_p2_sizes, .ref a_p2_starts, .ref a_p2_ranks, .ref a_p2_letters])), (a_p2_binomials, .inl (cJ, 1891, .inr (.inl c_p2_binomials))), (a_p2_partitionCounts, .inl (cI, 1891, .inl c_p2_partitionCounts)), (a_p2_treeCounts, .inl (cJ, 31, .inr (.inl c_p2_treeCounts)))] s.heap := hR0
  have hR := hR0
  have hl : lv_has ls 9 [(0, .ref a_this), (1, .ref a_p1), (2, .ref a_p2)] := hl
  unfold fX7_placeOf at h
  refine lv_aload_n hx hb dX7_placeOf_0 rfl (lv_at hl 1 rfl) ?_
  refine lv_aload_n hx hb dX7_placeOf_1 rfl (lv_at hl 0 rfl) ?_
  refine va_get (D := D) (ci := 6) (v := .int f_this_width) (C := RX7) (T := TX7) (N := 3) hx hb htc inX7 hown hV.1 hR 0 rfl rfl 1 (by decide) (htc _ w_1_123) (fun _ h9 => u_same (htc _ w_1_124) _ h9) rfl dX7_placeOf_2 ?_
  refine lv_aload_n hx hb dX7_placeOf_5 rfl (lv_at hl 2 rfl) ?_
  refine va_getN (D := D) (ci := 2) (v := .ref a_p2_sizes) (C := RX2) (T := TX2) (N := 7) hx hb htc inX2 hown hV.1 hR 2 rfl rfl 3 (by decide) (va_Nw.use rfl (hV.2.1 _ nw_1_60)) (fun _ h9 => h9) rfl dX7_placeOf_6 ?_
  obtain ⟨r_9, hc_9, h⟩ := rk_bd h
  refine rk_i (wr := [(a_p2_letters, .inl (cI, 4, .inl c_p2_letters)), (a_p2_ranks, .inl (cJ, 60, .inr (.inl c_p2_ranks)))]) (va_runS (As := [.ref a_p1, .int f_this_width, .ref a_p2_sizes]) (rest := []) hF (mtX7_measure l D cI cJ cO PL _ a_p2_sizes c_p2_sizes a_p1 c_p1 f_this_width r_9 hc_9) (va_cwS 3 htc (rk_gVS w_3_3 w_3_4 w_1_10 w_3_5) rfl rfl rfl (by decide +kernel) ⟨(Nat.le_of_ble_eq_true rfl), (Nat.le_of_ble_eq_true rfl)⟩) (rk_preS hP hD hS hR hn hPL hnl hV [2] [(false, 1)] rfl (by decide) rfl (by decide)) rfl rfl hl.1 rfl (lv_room (Nat.le_of_ble_eq_true rfl)) dX7_placeOf_9 ⟨(Nat.le_of_ble_eq_true rfl), (Nat.le_of_ble_eq_true rfl)⟩) hP hD hS hA hR0 hn [2] [0, 1] rfl rfl (by decide) (by decide) (fun H locs hP hD hS hR => ?_)
  have hP : va_P D vwCl [(a_p2_letters, .inl (cI, 4, .inl c_p2_letters)), (a_p2_ranks, .inl (cJ, 60, .inr (.inl c_p2_ranks))), (a_p2_sizes, .inl (cI, 60, .inl r_9.2))] H := hP
  have hD : va_D A [(a_p2_letters, .inl (cI, 4, .inl c_p2_letters)), (a_p2_ranks, .inl (cJ, 60, .inr (.inl c_p2_ranks))), (a_p2_sizes, .inl (cI, 60, .inl r_9.2))] := hD
  refine lv_pop hx hb dX7_placeOf_12 rfl ?_
  refine lv_aload_n hx hb dX7_placeOf_13 rfl (lv_at hl 0 rfl) ?_
  refine va_get (D := D) (ci := 6) (v := .int f_this_width) (C := RX7) (T := TX7) (N := 3) hx hb htc inX7 hown hV.1 hR 0 rfl rfl 1 (by decide) (htc _ w_1_123) (fun _ h9 => u_same (htc _ w_1_124) _ h9) rfl dX7_placeOf_14 ?_
  refine lv_iconst (v := 1) hx hb dX7_placeOf_17 (by decide) ?_
  refine lv_isub hx hb dX7_placeOf_18 ?_
  refine lv_istore_n (lv' := [(3, .int (f_this_width - (1 : Int32))), (0, .ref a_this), (1, .ref a_p1), (2, .ref a_p2)]) hx hb dX7_placeOf_19 rfl hl (by decide) rfl (fun ls hl => ?_)
  have L20 : ∀ (n20 : Nat) (b20_l3 : Int32) (b20_c_p2_ranks : Nat → Int64), rk_it2 (fX7_placeOf_L20 c_p1 c_p2_letters c_p2_treeCounts r_9) n20 b20_l3 b20_c_p2_ranks = some r0 → ∀ (H : Heap) (locs : List Loc), va_P D vwCl [(a_p2_letters, .inl (cI, 4, .inl c_p2_letters)), (a_p2_ranks, .inl (cJ, 60, .inr (.inl b20_c_p2_ranks))), (a_p2_sizes, .inl (cI, 60, .inl r_9.2))] H → va_D A [(a_p2_letters, .inl (cI, 4, .inl c_p2_letters)), (a_p2_ranks, .inl (cJ, 60, .inr (.inl b20_c_p2_ranks))), (a_p2_sizes, .inl (cI, 60, .inl r_9.2))] → va_S A s.heap H locs → ∀ (ls : Array Slot), lv_has ls 9 [(1, .ref a_p1), (2, .ref a_p2), (3, .int b20_l3)] → W p l e rmX7_placeOf s m args below meth c H locs 0 0 Q (F0 m 20 ls []) := by
    intro n20
    induction n20 with
    | zero => intro b20_l3 b20_c_p2_ranks h; exact rk_no h
    | succ n20 ih20 =>
      intro b20_l3 b20_c_p2_ranks h H locs hP hD hS ls hl
      have h : fX7_placeOf_L20 c_p1 c_p2_letters c_p2_treeCounts r_9 (rk_it2 (fX7_placeOf_L20 c_p1 c_p2_letters c_p2_treeCounts r_9) n20) b20_l3 b20_c_p2_ranks = some r0 := h
      unfold fX7_placeOf_L20 at h
      have hR := rk_keep hR0 hn hS
      refine lv_iload_n hx hb dX7_placeOf_20 rfl (lv_at hl 2 rfl) ?_
      refine lv_if_lt (tgt := 155) hx hb dX7_placeOf_21 (by decide) (fun hc1 => ?_) (fun hc1 => ?_)
      · have h := rk_if hc1 h
        refine lv_aload_n hx hb dX7_placeOf_155 rfl (lv_at hl 1 rfl) ?_
        refine va_getN (D := D) (ci := 2) (v := .ref a_p2_ranks) (C := RX2) (T := TX2) (N := 7) hx hb htc inX2 hown hV.1 hR 2 rfl rfl 5 (by decide) (va_Nw.use rfl (hV.2.1 _ nw_1_65)) (fun _ h9 => h9) rfl dX7_placeOf_156 ?_
        refine lv_iconst (v := 0) hx hb dX7_placeOf_159 (by decide) ?_
        obtain ⟨r_160, hc_160, h⟩ := rk_bd h
        refine rk_l (wr := [(a_p2_letters, .inl (cI, 4, .inl c_p2_letters)), (a_p2_ranks, .inl (cJ, 60, .inr (.inl b20_c_p2_ranks))), (a_p2_sizes, .inl (cI, 60, .inl r_9.2))]) (va_runSN (As := [.ref a_p2_ranks, .int (0 : Int32)]) (rest := []) hF (mtX9_at_ l D cI cJ cO PL _ a_p2_ranks 60 b20_c_p2_ranks (0 : Int32) r_160 hc_160) ⟨va_cnB 2 htc (rk_gw w_1_40) rfl rfl rfl (hV.2.1 _ nw_2_19) (htc _ w_1_1) (by decide +kernel) ⟨(Nat.le_of_ble_eq_true rfl), (Nat.le_of_ble_eq_true rfl)⟩, htc _ w_1_39, trivial⟩ (rk_preS hP hD hS hR hn hPL hnl hV [] [(true, 1)] rfl (by decide) rfl (by decide)) rfl rfl hl.1 rfl (lv_room (Nat.le_of_ble_eq_true rfl)) dX7_placeOf_160 ⟨(Nat.le_of_ble_eq_true rfl), (Nat.le_of_ble_eq_true rfl)⟩) hP hD hS hA hR0 hn [] [0, 1, 2] rfl rfl (by decide) (by decide) (fun H locs hP hD hS hR => ?_)
        have hP : va_P D vwCl [(a_p2_letters, .inl (cI, 4, .inl c_p2_letters)), (a_p2_ranks, .inl (cJ, 60, .inr (.inl b20_c_p2_ranks))), (a_p2_sizes, .inl (cI, 60, .inl r_9.2))] H := hP
        have hD : va_D A [(a_p2_letters, .inl (cI, 4, .inl c_p2_letters)), (a_p2_ranks, .inl (cJ, 60, .inr (.inl b20_c_p2_ranks))), (a_p2_sizes, .inl (cI, 60, .inl r_9.2))] := hD
        exact hret (r_160, c_p2_letters, b20_c_p2_ranks, r_9.2) _ _ _ _ h dX7_placeOf_163 hP hD hS
      · have h := rk_nif hc1 h
        refine lv_aload_n hx hb dX7_placeOf_24 rfl (lv_at hl 0 rfl) ?_
        refine lv_iload_n hx hb dX7_placeOf_25 rfl (lv_at hl 2 rfl) ?_
        obtain ⟨r_26, hc_26, h⟩ := rk_bd h
        refine rk_i (wr := [(a_p2_letters, .inl (cI, 4, .inl c_p2_letters)), (a_p2_ranks, .inl (cJ, 60, .inr (.inl b20_c_p2_ranks))), (a_p2_sizes, .inl (cI, 60, .inl r_9.2))]) (va_runSN (As := [.ref a_p1, .int b20_l3]) (rest := []) hF (mtX9_at l D cI cJ cO PL _ a_p1 60 c_p1 b20_l3 r_26 hc_26) ⟨va_cnB 2 htc (rk_gw w_1_52) rfl rfl rfl (hV.2.1 _ nw_2_18) (htc _ w_1_1) (by decide +kernel) ⟨(Nat.le_of_ble_eq_true rfl), (Nat.le_of_ble_eq_true rfl)⟩, htc _ w_1_51, trivial⟩ (rk_preS hP hD hS hR hn hPL hnl hV [] [(false, 1)] rfl (by decide) rfl (by decide)) rfl rfl hl.1 rfl (lv_room (Nat.le_of_ble_eq_true rfl)) dX7_placeOf_26 ⟨(Nat.le_of_ble_eq_true rfl), (Nat.le_of_ble_eq_true rfl)⟩) hP hD hS hA hR0 hn [] [0, 1, 2] rfl rfl (by decide) (by decide) (fun H locs hP hD hS hR => ?_)
        have hP : va_P D vwCl [(a_p2_letters, .inl (cI, 4, .inl c_p2_letters)), (a_p2_ranks, .inl (cJ, 60, .inr (.inl b20_c_p2_ranks))), (a_p2_sizes, .inl (cI, 60, .inl r_9.2))] H := hP
        have hD : va_D A [(a_p2_letters, .inl (cI, 4, .inl c_p2_letters)), (a_p2_ranks, .inl (cJ, 60, .inr (.inl b20_c_p2_ranks))), (a_p2_sizes, .inl (cI, 60, .inl r_9.2))] := hD
        refine lv_istore (lv' := [(4, .int r_26), (1, .ref a_p1), (2, .ref a_p2), (3, .int b20_l3)]) hx hb dX7_placeOf_29 hl (by decide) rfl (fun ls hl => ?_)
        refine lv_aload_n hx hb dX7_placeOf_31 rfl (lv_at hl 2 rfl) ?_
        refine va_getN (D := D) (ci := 2) (v := .ref a_p2_sizes) (C := RX2) (T := TX2) (N := 7) hx hb htc inX2 hown hV.1 hR 2 rfl rfl 3 (by decide) (va_Nw.use rfl (hV.2.1 _ nw_1_60)) (fun _ h9 => h9) rfl dX7_placeOf_32 ?_
        refine lv_iload_n hx hb dX7_placeOf_35 rfl (lv_at hl 3 rfl) ?_
        obtain ⟨r_36, hc_36, h⟩ := rk_bd h
        refine rk_i (wr := [(a_p2_letters, .inl (cI, 4, .inl c_p2_letters)), (a_p2_ranks, .inl (cJ, 60, .inr (.inl b20_c_p2_ranks))), (a_p2_sizes, .inl (cI, 60, .inl r_9.2))]) (va_runSN (As := [.ref a_p2_sizes, .int b20_l3]) (rest := []) hF (mtX9_at l D cI cJ cO PL _ a_p2_sizes 60 r_9.2 b20_l3 r_36 hc_36) ⟨va_cnB 2 htc (rk_gw w_1_52) rfl rfl rfl (hV.2.1 _ nw_2_18) (htc _ w_1_1) (by decide +kernel) ⟨(Nat.le_of_ble_eq_true rfl), (Nat.le_of_ble_eq_true rfl)⟩, htc _ w_1_51, trivial⟩ (rk_preS hP hD hS hR hn hPL hnl hV [] [(true, 2)] rfl (by decide) rfl (by decide)) rfl rfl hl.1 rfl (lv_room (Nat.le_of_ble_eq_true rfl)) dX7_placeOf_36 ⟨(Nat.le_of_ble_eq_true rfl), (Nat.le_of_ble_eq_true rfl)⟩) hP hD hS hA hR0 hn [] [0, 1, 2] rfl rfl (by decide) (by decide) (fun H locs hP hD hS hR => ?_)
        have hP : va_P D vwCl [(a_p2_letters, .inl (cI, 4, .inl c_p2_letters)), (a_p2_ranks, .inl (cJ, 60, .inr (.inl b20_c_p2_ranks))), (a_p2_sizes, .inl (cI, 60, .inl r_9.2))] H := hP
        have hD : va_D A [(a_p2_letters, .inl (cI, 4, .inl c_p2_letters)), (a_p2_ranks, .inl (cJ, 60, .inr (.inl b20_c_p2_ranks))), (a_p2_sizes, .inl (cI, 60, .inl r_9.2))] := hD
        refine lv_iconst (v := 1) hx hb dX7_placeOf_39 (by decide) ?_
        refine lv_isub hx hb dX7_placeOf_40 ?_
        refine lv_iload hx hb dX7_placeOf_41 (lv_at hl 0 rfl) ?_
        refine lv_isub hx hb dX7_placeOf_43 ?_
        refine lv_istore (lv' := [(5, .int ((r_36 - (1 : Int32)) - r_26)), (4, .int r_26), (1, .ref a_p1), (2, .ref a_p2), (3, .int b20_l3)]) hx hb dX7_placeOf_44 hl (by decide) rfl (fun ls hl => ?_)
        refine lv_lconst (v := 0) hx hb dX7_placeOf_46 (by decide) ?_
        refine lv_lstore (lv' := [(6, .long (0 : Int64)), (5, .int ((r_36 - (1 : Int32)) - r_26)), (4, .int r_26), (1, .ref a_p1), (2, .ref a_p2), (3, .int b20_l3)]) hx hb dX7_placeOf_47 hl (by decide) rfl (fun ls hl => ?_)
        refine lv_iconst (v := 0) hx hb dX7_placeOf_49 (by decide) ?_
        refine lv_istore (lv' := [(8, .int (0 : Int32)), (6, .long (0 : Int64)), (5, .int ((r_36 - (1 : Int32)) - r_26)), (4, .int r_26), (1, .ref a_p1), (2, .ref a_p2), (3, .int b20_l3)]) hx hb dX7_placeOf_50 hl (by decide) rfl (fun ls hl => ?_)
        have L52 : ∀ (n52 : Nat) (b52_l6 : Int64) (b52_l8 : Int32), rk_it2 (fX7_placeOf_L52 c_p2_treeCounts b20_l3 b20_c_p2_ranks (rk_it2 (fX7_placeOf_L20 c_p1 c_p2_letters c_p2_treeCounts r_9) n20) r_26 r_36) n52 b52_l6 b52_l8 = some r0 → ∀ (H : Heap) (locs : List Loc), va_P D vwCl [(a_p2_letters, .inl (cI, 4, .inl c_p2_letters)), (a_p2_ranks, .inl (cJ, 60, .inr (.inl b20_c_p2_ranks))), (a_p2_sizes, .inl (cI, 60, .inl r_9.2))] H → va_D A [(a_p2_letters, .inl (cI, 4, .inl c_p2_letters)), (a_p2_ranks, .inl (cJ, 60, .inr (.inl b20_c_p2_ranks))), (a_p2_sizes, .inl (cI, 60, .inl r_9.2))] → va_S A s.heap H locs → ∀ (ls : Array Slot), lv_has ls 9 [(1, .ref a_p1), (2, .ref a_p2), (3, .int b20_l3), (4, .int r_26), (5, .int ((r_36 - (1 : Int32)) - r_26)), (6, .long b52_l6), (8, .int b52_l8)] → W p l e rmX7_placeOf s m args below meth c H locs 0 0 Q (F0 m 52 ls []) := by
          intro n52
          induction n52 with
          | zero => intro b52_l6 b52_l8 h; exact rk_no h
          | succ n52 ih52 =>
            intro b52_l6 b52_l8 h H locs hP hD hS ls hl
            have h : fX7_placeOf_L52 c_p2_treeCounts b20_l3 b20_c_p2_ranks (rk_it2 (fX7_placeOf_L20 c_p1 c_p2_letters c_p2_treeCounts r_9) n20) r_26 r_36 (rk_it2 (fX7_placeOf_L52 c_p2_treeCounts b20_l3 b20_c_p2_ranks (rk_it2 (fX7_placeOf_L20 c_p1 c_p2_letters c_p2_treeCounts r_9) n20) r_26 r_36) n52) b52_l6 b52_l8 = some r0 := h
            unfold fX7_placeOf_L52 at h
            have hR := rk_keep hR0 hn hS
            refine lv_iload hx hb dX7_placeOf_52 (lv_at hl 6 rfl) ?_
            refine lv_iload hx hb dX7_placeOf_54 (lv_at hl 3 rfl) ?_
            refine lv_icmp_ge (tgt := 89) hx hb dX7_placeOf_56 (by decide) (fun hc2 => ?_) (fun hc2 => ?_)
            · have h := rk_if hc2 h
              refine lv_iload hx hb dX7_placeOf_89 (lv_at hl 3 rfl) ?_
              have B116 : ∀ (b116_l6 : Int64), fX7_placeOf_B116 b20_l3 b20_c_p2_ranks (rk_it2 (fX7_placeOf_L20 c_p1 c_p2_letters c_p2_treeCounts r_9) n20) r_26 r_36 b116_l6 = some r0 → ∀ (H : Heap) (locs : List Loc), va_P D vwCl [(a_p2_letters, .inl (cI, 4, .inl c_p2_letters)), (a_p2_ranks, .inl (cJ, 60, .inr (.inl b20_c_p2_ranks))), (a_p2_sizes, .inl (cI, 60, .inl r_9.2))] H → va_D A [(a_p2_letters, .inl (cI, 4, .inl c_p2_letters)), (a_p2_ranks, .inl (cJ, 60, .inr (.inl b20_c_p2_ranks))), (a_p2_sizes, .inl (cI, 60, .inl r_9.2))] → va_S A s.heap H locs → ∀ (ls : Array Slot), lv_has ls 9 [(1, .ref a_p1), (2, .ref a_p2), (3, .int b20_l3), (4, .int r_26), (5, .int ((r_36 - (1 : Int32)) - r_26)), (6, .long b116_l6)] → W p l e rmX7_placeOf s m args below meth c H locs 0 0 Q (F0 m 116 ls []) := by
                intro b116_l6 h H locs hP hD hS ls hl
                unfold fX7_placeOf_B116 at h
                have hR := rk_keep hR0 hn hS
                refine lv_iload hx hb dX7_placeOf_116 (lv_at hl 4 rfl) ?_
                have B139 : ∀ (b139_l6 : Int64), fX7_placeOf_B139 b20_l3 b20_c_p2_ranks (rk_it2 (fX7_placeOf_L20 c_p1 c_p2_letters c_p2_treeCounts r_9) n20) b139_l6 = some r0 → ∀ (H : Heap) (locs : List Loc), va_P D vwCl [(a_p2_letters, .inl (cI, 4, .inl c_p2_letters)), (a_p2_ranks, .inl (cJ, 60, .inr (.inl b20_c_p2_ranks))), (a_p2_sizes, .inl (cI, 60, .inl r_9.2))] H → va_D A [(a_p2_letters, .inl (cI, 4, .inl c_p2_letters)), (a_p2_ranks, .inl (cJ, 60, .inr (.inl b20_c_p2_ranks))), (a_p2_sizes, .inl (cI, 60, .inl r_9.2))] → va_S A s.heap H locs → ∀ (ls : Array Slot), lv_has ls 9 [(1, .ref a_p1), (2, .ref a_p2), (3, .int b20_l3), (6, .long b139_l6)] → W p l e rmX7_placeOf s m args below meth c H locs 0 0 Q (F0 m 139 ls []) := by
                  intro b139_l6 h H locs hP hD hS ls hl
                  unfold fX7_placeOf_B139 at h
                  have hR := rk_keep hR0 hn hS
                  refine lv_aload_n hx hb dX7_placeOf_139 rfl (lv_at hl 1 rfl) ?_
                  refine va_getN (D := D) (ci := 2) (v := .ref a_p2_ranks) (C := RX2) (T := TX2) (N := 7) hx hb htc inX2 hown hV.1 hR 2 rfl rfl 5 (by decide) (va_Nw.use rfl (hV.2.1 _ nw_1_65)) (fun _ h9 => h9) rfl dX7_placeOf_140 ?_
                  refine lv_iload_n hx hb dX7_placeOf_143 rfl (lv_at hl 2 rfl) ?_
                  refine lv_lload hx hb dX7_placeOf_144 (lv_at hl 3 rfl) ?_
                  obtain ⟨r_146, hc_146, h⟩ := rk_bd h
                  refine rk_v (wr := [(a_p2_letters, .inl (cI, 4, .inl c_p2_letters)), (a_p2_sizes, .inl (cI, 60, .inl r_9.2))]) (va_runSN (As := [.ref a_p2_ranks, .int b20_l3, .long b139_l6]) (rest := []) hF (mtX9_set_ l D cI cJ cO PL _ a_p2_ranks 60 b20_c_p2_ranks b20_l3 b139_l6 r_146 hc_146) ⟨va_cnB 3 htc (rk_gw w_1_37) rfl rfl rfl (hV.2.1 _ nw_2_17) (htc _ w_1_1) (by decide +kernel) ⟨(Nat.le_of_ble_eq_true rfl), (Nat.le_of_ble_eq_true rfl)⟩, htc _ w_1_36, trivial⟩ (rk_preS hP hD hS hR hn hPL hnl hV [1] [] rfl (by decide) rfl (by decide)) rfl rfl hl.1 rfl (lv_room (Nat.le_of_ble_eq_true rfl)) dX7_placeOf_146 ⟨(Nat.le_of_ble_eq_true rfl), (Nat.le_of_ble_eq_true rfl)⟩) hP hD hS hA hR0 hn [1] [0, 2] rfl rfl (by decide) (by decide) (fun H locs hP hD hS hR => ?_)
                  have hP : va_P D vwCl [(a_p2_letters, .inl (cI, 4, .inl c_p2_letters)), (a_p2_sizes, .inl (cI, 60, .inl r_9.2)), (a_p2_ranks, .inl (cJ, 60, .inr (.inl r_146)))] H := hP
                  have hD : va_D A [(a_p2_letters, .inl (cI, 4, .inl c_p2_letters)), (a_p2_sizes, .inl (cI, 60, .inl r_9.2)), (a_p2_ranks, .inl (cJ, 60, .inr (.inl r_146)))] := hD
                  refine lv_iinc (v := (b20_l3 + (-1))) (lv' := [(3, .int (b20_l3 + (-1))), (1, .ref a_p1), (2, .ref a_p2), (6, .long b139_l6)]) hx hb dX7_placeOf_149 hl (k := 2) rfl rfl (by decide) rfl (fun ls hl => ?_)
                  refine lv_goto (tgt := 20) hx hb dX7_placeOf_152 (by decide) ?_
                  exact ih20 (b20_l3 + (-1)) r_146 h _ _ (hP.sub [0, 2, 1] rfl) (hD.sub [0, 2, 1] (by decide) rfl) hS _ (lv_sub hl [1, 2, 0] rfl)
                refine lv_if_le (tgt := 139) hx hb dX7_placeOf_118 (by decide) (fun hc3 => ?_) (fun hc3 => ?_)
                · have h := rk_if hc3 h
                  exact B139 b116_l6 h _ _ hP hD hS _ (lv_sub hl [0, 1, 2, 5] rfl)
                · have h := rk_nif hc3 h
                  refine lv_lload hx hb dX7_placeOf_121 (lv_at hl 5 rfl) ?_
                  refine lv_aload_n hx hb dX7_placeOf_123 rfl (lv_at hl 1 rfl) ?_
                  refine va_getN (D := D) (ci := 2) (v := .ref a_p2_ranks) (C := RX2) (T := TX2) (N := 7) hx hb htc inX2 hown hV.1 hR 2 rfl rfl 5 (by decide) (va_Nw.use rfl (hV.2.1 _ nw_1_65)) (fun _ h9 => h9) rfl dX7_placeOf_124 ?_
                  refine lv_iload_n hx hb dX7_placeOf_127 rfl (lv_at hl 2 rfl) ?_
                  refine lv_iconst (v := 1) hx hb dX7_placeOf_128 (by decide) ?_
                  refine lv_iadd hx hb dX7_placeOf_129 ?_
                  refine lv_iload hx hb dX7_placeOf_130 (lv_at hl 3 rfl) ?_
                  refine lv_iadd hx hb dX7_placeOf_132 ?_
                  obtain ⟨r_133, hc_133, h⟩ := rk_bd h
                  refine rk_l (wr := [(a_p2_letters, .inl (cI, 4, .inl c_p2_letters)), (a_p2_ranks, .inl (cJ, 60, .inr (.inl b20_c_p2_ranks))), (a_p2_sizes, .inl (cI, 60, .inl r_9.2))]) (va_runSN (As := [.ref a_p2_ranks, .int ((b20_l3 + (1 : Int32)) + r_26)]) (rest := [.long b116_l6]) hF (mtX9_at_ l D cI cJ cO PL _ a_p2_ranks 60 b20_c_p2_ranks ((b20_l3 + (1 : Int32)) + r_26) r_133 hc_133) ⟨va_cnB 2 htc (rk_gw w_1_40) rfl rfl rfl (hV.2.1 _ nw_2_19) (htc _ w_1_1) (by decide +kernel) ⟨(Nat.le_of_ble_eq_true rfl), (Nat.le_of_ble_eq_true rfl)⟩, htc _ w_1_39, trivial⟩ (rk_preS hP hD hS hR hn hPL hnl hV [] [(true, 1)] rfl (by decide) rfl (by decide)) rfl rfl hl.1 rfl (lv_room (Nat.le_of_ble_eq_true rfl)) dX7_placeOf_133 ⟨(Nat.le_of_ble_eq_true rfl), (Nat.le_of_ble_eq_true rfl)⟩) hP hD hS hA hR0 hn [] [0, 1, 2] rfl rfl (by decide) (by decide) (fun H locs hP hD hS hR => ?_)
                  have hP : va_P D vwCl [(a_p2_letters, .inl (cI, 4, .inl c_p2_letters)), (a_p2_ranks, .inl (cJ, 60, .inr (.inl b20_c_p2_ranks))), (a_p2_sizes, .inl (cI, 60, .inl r_9.2))] H := hP
                  have hD : va_D A [(a_p2_letters, .inl (cI, 4, .inl c_p2_letters)), (a_p2_ranks, .inl (cJ, 60, .inr (.inl b20_c_p2_ranks))), (a_p2_sizes, .inl (cI, 60, .inl r_9.2))] := hD
                  refine lv_ladd hx hb dX7_placeOf_136 ?_
                  refine lv_lstore (lv' := [(6, .long (b116_l6 + r_133)), (1, .ref a_p1), (2, .ref a_p2), (3, .int b20_l3), (4, .int r_26), (5, .int ((r_36 - (1 : Int32)) - r_26))]) hx hb dX7_placeOf_137 hl (by decide) rfl (fun ls hl => ?_)
                  exact B139 (b116_l6 + r_133) h _ _ hP hD hS _ (lv_sub hl [1, 2, 3, 0] rfl)
              refine lv_if_le (tgt := 116) hx hb dX7_placeOf_91 (by decide) (fun hc4 => ?_) (fun hc4 => ?_)
              · have h := rk_if hc4 h
                exact B116 b52_l6 h _ _ hP hD hS _ (lv_sub hl [0, 1, 2, 3, 4, 5] rfl)
              · have h := rk_nif hc4 h
                refine lv_lload hx hb dX7_placeOf_94 (lv_at hl 5 rfl) ?_
                refine lv_aload_n hx hb dX7_placeOf_96 rfl (lv_at hl 1 rfl) ?_
                refine va_getN (D := D) (ci := 2) (v := .ref a_p2_ranks) (C := RX2) (T := TX2) (N := 7) hx hb htc inX2 hown hV.1 hR 2 rfl rfl 5 (by decide) (va_Nw.use rfl (hV.2.1 _ nw_1_65)) (fun _ h9 => h9) rfl dX7_placeOf_97 ?_
                refine lv_iload_n hx hb dX7_placeOf_100 rfl (lv_at hl 2 rfl) ?_
                refine lv_iconst (v := 1) hx hb dX7_placeOf_101 (by decide) ?_
                refine lv_iadd hx hb dX7_placeOf_102 ?_
                obtain ⟨r_103, hc_103, h⟩ := rk_bd h
                refine rk_l (wr := [(a_p2_letters, .inl (cI, 4, .inl c_p2_letters)), (a_p2_ranks, .inl (cJ, 60, .inr (.inl b20_c_p2_ranks))), (a_p2_sizes, .inl (cI, 60, .inl r_9.2))]) (va_runSN (As := [.ref a_p2_ranks, .int (b20_l3 + (1 : Int32))]) (rest := [.long b52_l6]) hF (mtX9_at_ l D cI cJ cO PL _ a_p2_ranks 60 b20_c_p2_ranks (b20_l3 + (1 : Int32)) r_103 hc_103) ⟨va_cnB 2 htc (rk_gw w_1_40) rfl rfl rfl (hV.2.1 _ nw_2_19) (htc _ w_1_1) (by decide +kernel) ⟨(Nat.le_of_ble_eq_true rfl), (Nat.le_of_ble_eq_true rfl)⟩, htc _ w_1_39, trivial⟩ (rk_preS hP hD hS hR hn hPL hnl hV [] [(true, 1)] rfl (by decide) rfl (by decide)) rfl rfl hl.1 rfl (lv_room (Nat.le_of_ble_eq_true rfl)) dX7_placeOf_103 ⟨(Nat.le_of_ble_eq_true rfl), (Nat.le_of_ble_eq_true rfl)⟩) hP hD hS hA hR0 hn [] [0, 1, 2] rfl rfl (by decide) (by decide) (fun H locs hP hD hS hR => ?_)
                have hP : va_P D vwCl [(a_p2_letters, .inl (cI, 4, .inl c_p2_letters)), (a_p2_ranks, .inl (cJ, 60, .inr (.inl b20_c_p2_ranks))), (a_p2_sizes, .inl (cI, 60, .inl r_9.2))] H := hP
                have hD : va_D A [(a_p2_letters, .inl (cI, 4, .inl c_p2_letters)), (a_p2_ranks, .inl (cJ, 60, .inr (.inl b20_c_p2_ranks))), (a_p2_sizes, .inl (cI, 60, .inl r_9.2))] := hD
                refine lv_aload_n hx hb dX7_placeOf_106 rfl (lv_at hl 1 rfl) ?_
                refine lv_iload hx hb dX7_placeOf_107 (lv_at hl 4 rfl) ?_
                obtain ⟨r_109, hc_109, h⟩ := rk_bd h
                refine rk_l (wr := [(a_p2_letters, .inl (cI, 4, .inl c_p2_letters)), (a_p2_ranks, .inl (cJ, 60, .inr (.inl b20_c_p2_ranks))), (a_p2_sizes, .inl (cI, 60, .inl r_9.2))]) (va_runVN (C := RX2) (As := [.int ((r_36 - (1 : Int32)) - r_26)]) (rest := [.long r_103, .long b52_l6]) hF (mtX2_trees l D cI cJ cO PL _ a_p2 a_p2_binomials a_p2_partitionCounts a_p2_treeCounts a_p2_sizes a_p2_starts a_p2_ranks a_p2_letters c_p2_treeCounts ((r_36 - (1 : Int32)) - r_26) r_109 hc_109) ⟨va_cnB 1 htc (rk_gw w_2_23) rfl rfl rfl (hV.2.1 _ nw_2_20) (htc _ w_1_2) (by decide +kernel) ⟨(Nat.le_of_ble_eq_true rfl), (Nat.le_of_ble_eq_true rfl)⟩, htc _ w_2_22, htc _ ws_9⟩ (rk_preV (va_recv hV.1 hR (ci := 2) (q0 := 2) rfl rfl) (rk_preS hP hD hS hR hn hPL hnl hV [] [(false, 2), (false, 5)] rfl (by decide) rfl (by decide))) rfl rfl hl.1 rfl (lv_room (Nat.le_of_ble_eq_true rfl)) dX7_placeOf_109 ⟨(Nat.le_of_ble_eq_true rfl), (Nat.le_of_ble_eq_true rfl)⟩) hP hD hS hA hR0 hn [] [0, 1, 2] rfl rfl (by decide) (by decide) (fun H locs hP hD hS hR => ?_)
                have hP : va_P D vwCl [(a_p2_letters, .inl (cI, 4, .inl c_p2_letters)), (a_p2_ranks, .inl (cJ, 60, .inr (.inl b20_c_p2_ranks))), (a_p2_sizes, .inl (cI, 60, .inl r_9.2))] H := hP
                have hD : va_D A [(a_p2_letters, .inl (cI, 4, .inl c_p2_letters)), (a_p2_ranks, .inl (cJ, 60, .inr (.inl b20_c_p2_ranks))), (a_p2_sizes, .inl (cI, 60, .inl r_9.2))] := hD
                refine lv_lmul hx hb dX7_placeOf_112 ?_
                refine lv_ladd hx hb dX7_placeOf_113 ?_
                refine lv_lstore (lv' := [(6, .long (b52_l6 + (r_103 * r_109))), (1, .ref a_p1), (2, .ref a_p2), (3, .int b20_l3), (4, .int r_26), (5, .int ((r_36 - (1 : Int32)) - r_26)), (8, .int b52_l8)]) hx hb dX7_placeOf_114 hl (by decide) rfl (fun ls hl => ?_)
                exact B116 (b52_l6 + (r_103 * r_109)) h _ _ hP hD hS _ (lv_sub hl [1, 2, 3, 4, 5, 0] rfl)
            · have h := rk_nif hc2 h
              refine lv_lload hx hb dX7_placeOf_59 (lv_at hl 5 rfl) ?_
              refine lv_aload_n hx hb dX7_placeOf_61 rfl (lv_at hl 1 rfl) ?_
              refine lv_iload hx hb dX7_placeOf_62 (lv_at hl 6 rfl) ?_
              obtain ⟨r_64, hc_64, h⟩ := rk_bd h
              refine rk_l (wr := [(a_p2_letters, .inl (cI, 4, .inl c_p2_letters)), (a_p2_ranks, .inl (cJ, 60, .inr (.inl b20_c_p2_ranks))), (a_p2_sizes, .inl (cI, 60, .inl r_9.2))]) (va_runVN (C := RX2) (As := [.int b52_l8]) (rest := [.long b52_l6]) hF (mtX2_trees l D cI cJ cO PL _ a_p2 a_p2_binomials a_p2_partitionCounts a_p2_treeCounts a_p2_sizes a_p2_starts a_p2_ranks a_p2_letters c_p2_treeCounts b52_l8 r_64 hc_64) ⟨va_cnB 1 htc (rk_gw w_2_23) rfl rfl rfl (hV.2.1 _ nw_2_20) (htc _ w_1_2) (by decide +kernel) ⟨(Nat.le_of_ble_eq_true rfl), (Nat.le_of_ble_eq_true rfl)⟩, htc _ w_2_22, htc _ ws_9⟩ (rk_preV (va_recv hV.1 hR (ci := 2) (q0 := 2) rfl rfl) (rk_preS hP hD hS hR hn hPL hnl hV [] [(false, 2), (false, 5)] rfl (by decide) rfl (by decide))) rfl rfl hl.1 rfl (lv_room (Nat.le_of_ble_eq_true rfl)) dX7_placeOf_64 ⟨(Nat.le_of_ble_eq_true rfl), (Nat.le_of_ble_eq_true rfl)⟩) hP hD hS hA hR0 hn [] [0, 1, 2] rfl rfl (by decide) (by decide) (fun H locs hP hD hS hR => ?_)
              have hP : va_P D vwCl [(a_p2_letters, .inl (cI, 4, .inl c_p2_letters)), (a_p2_ranks, .inl (cJ, 60, .inr (.inl b20_c_p2_ranks))), (a_p2_sizes, .inl (cI, 60, .inl r_9.2))] H := hP
              have hD : va_D A [(a_p2_letters, .inl (cI, 4, .inl c_p2_letters)), (a_p2_ranks, .inl (cJ, 60, .inr (.inl b20_c_p2_ranks))), (a_p2_sizes, .inl (cI, 60, .inl r_9.2))] := hD
              refine lv_aload_n hx hb dX7_placeOf_67 rfl (lv_at hl 1 rfl) ?_
              refine lv_iload hx hb dX7_placeOf_68 (lv_at hl 3 rfl) ?_
              refine lv_iload hx hb dX7_placeOf_70 (lv_at hl 4 rfl) ?_
              refine lv_iadd hx hb dX7_placeOf_72 ?_
              refine lv_iload hx hb dX7_placeOf_73 (lv_at hl 6 rfl) ?_
              refine lv_isub hx hb dX7_placeOf_75 ?_
              obtain ⟨r_76, hc_76, h⟩ := rk_bd h
              refine rk_l (wr := [(a_p2_letters, .inl (cI, 4, .inl c_p2_letters)), (a_p2_ranks, .inl (cJ, 60, .inr (.inl b20_c_p2_ranks))), (a_p2_sizes, .inl (cI, 60, .inl r_9.2))]) (va_runVN (C := RX2) (As := [.int ((r_26 + ((r_36 - (1 : Int32)) - r_26)) - b52_l8)]) (rest := [.long r_64, .long b52_l6]) hF (mtX2_trees l D cI cJ cO PL _ a_p2 a_p2_binomials a_p2_partitionCounts a_p2_treeCounts a_p2_sizes a_p2_starts a_p2_ranks a_p2_letters c_p2_treeCounts ((r_26 + ((r_36 - (1 : Int32)) - r_26)) - b52_l8) r_76 hc_76) ⟨va_cnB 1 htc (rk_gw w_2_23) rfl rfl rfl (hV.2.1 _ nw_2_20) (htc _ w_1_2) (by decide +kernel) ⟨(Nat.le_of_ble_eq_true rfl), (Nat.le_of_ble_eq_true rfl)⟩, htc _ w_2_22, htc _ ws_9⟩ (rk_preV (va_recv hV.1 hR (ci := 2) (q0 := 2) rfl rfl) (rk_preS hP hD hS hR hn hPL hnl hV [] [(false, 2), (false, 5)] rfl (by decide) rfl (by decide))) rfl rfl hl.1 rfl (lv_room (Nat.le_of_ble_eq_true rfl)) dX7_placeOf_76 ⟨(Nat.le_of_ble_eq_true rfl), (Nat.le_of_ble_eq_true rfl)⟩) hP hD hS hA hR0 hn [] [0, 1, 2] rfl rfl (by decide) (by decide) (fun H locs hP hD hS hR => ?_)
              have hP : va_P D vwCl [(a_p2_letters, .inl (cI, 4, .inl c_p2_letters)), (a_p2_ranks, .inl (cJ, 60, .inr (.inl b20_c_p2_ranks))), (a_p2_sizes, .inl (cI, 60, .inl r_9.2))] H := hP
              have hD : va_D A [(a_p2_letters, .inl (cI, 4, .inl c_p2_letters)), (a_p2_ranks, .inl (cJ, 60, .inr (.inl b20_c_p2_ranks))), (a_p2_sizes, .inl (cI, 60, .inl r_9.2))] := hD
              refine lv_lmul hx hb dX7_placeOf_79 ?_
              refine lv_ladd hx hb dX7_placeOf_80 ?_
              refine lv_lstore (lv' := [(6, .long (b52_l6 + (r_64 * r_76))), (1, .ref a_p1), (2, .ref a_p2), (3, .int b20_l3), (4, .int r_26), (5, .int ((r_36 - (1 : Int32)) - r_26)), (8, .int b52_l8)]) hx hb dX7_placeOf_81 hl (by decide) rfl (fun ls hl => ?_)
              refine lv_iinc (v := (b52_l8 + 1)) (lv' := [(8, .int (b52_l8 + 1)), (6, .long (b52_l6 + (r_64 * r_76))), (1, .ref a_p1), (2, .ref a_p2), (3, .int b20_l3), (4, .int r_26), (5, .int ((r_36 - (1 : Int32)) - r_26))]) hx hb dX7_placeOf_83 hl (k := 6) rfl rfl (by decide) rfl (fun ls hl => ?_)
              refine lv_goto (tgt := 52) hx hb dX7_placeOf_86 (by decide) ?_
              exact ih52 (b52_l6 + (r_64 * r_76)) (b52_l8 + 1) h _ _ hP hD hS _ (lv_sub hl [2, 3, 4, 5, 6, 1, 0] rfl)
        exact L52 FU (0 : Int64) (0 : Int32) h _ _ hP hD hS _ (lv_sub hl [4, 5, 6, 3, 2, 1, 0] rfl)
  exact L20 FU (f_this_width - (1 : Int32)) c_p2_ranks h _ _ hP hD hS _ (lv_sub hl [2, 3, 0] rfl)
set_option maxHeartbeats 4000000 in
set_option maxRecDepth 100000 in
theorem mtX7_splitRank (l : Launch) (D : va_G) (cI cJ cO : ClassId) (PL : va_W) (sz : Nat) (a_p0 : Nat) (a_p0_binomials : Nat) (a_p0_partitionCounts : Nat) (a_p0_treeCounts : Nat) (a_p0_sizes : Nat) (a_p0_starts : Nat) (a_p0_ranks : Nat) (a_p0_letters : Nat) (c_p0_ranks : Nat → Int64) (c_p0_sizes : Nat → Int32) (c_p0_treeCounts : Nat → Int64) (v_p1 : Int32) (v_p2 : Int32) (v_p3 : Int64) (r0 : (Nat → Int64)) (h : fX7_splitRank c_p0_ranks c_p0_sizes c_p0_treeCounts v_p1 v_p2 v_p3 = some r0) : Met l yX7_splitRank (rk_w yX7_splitRank cX7_splitRank 8 none) rmX7_splitRank (va_Pc [.ref a_p0, .int v_p1, .int v_p2, .long v_p3] (rk_B D (rk_TY cI cJ cO) [(a_p0_ranks, .inl (cJ, 60, .inr (.inl c_p0_ranks)))] [(a_p0, .inr (2, [.ref a_p0_binomials, .ref a_p0_partitionCounts, .ref a_p0_treeCounts, .ref a_p0_sizes, .ref a_p0_starts, .ref a_p0_ranks, .ref a_p0_letters])), (a_p0_sizes, .inl (cI, 60, .inl c_p0_sizes)), (a_p0_treeCounts, .inl (cJ, 31, .inr (.inl c_p0_treeCounts)))] PL sz)) (rk_Qv D [(a_p0_ranks, .inl (cJ, 60, .inr (.inl r0)))] [(a_p0_ranks, .inl (cJ, 60, .inr (.inl c_p0_ranks)))] sz) 0 0 (va_A [(a_p0_ranks, .inl (cJ, 60, .inr (.inl c_p0_ranks)))] sz) := by
  refine rk_metv h (fun x => [(a_p0_ranks, .inl (cJ, 60, .inr (.inl x)))]) (by decide) (Nat.le_of_ble_eq_true rfl) ?_
  intro p e s m args below meth c A ls Q hret hname hF hP hD hA hV hR0 hn hPL hnl hl h hS
  have hx := hF.1
  have hb := hF.2.1
  have hml := hF.2.2.1
  have hown : s.vm.findClass RX7 = some m.cls := hF.2.2.2.1
  have htc := hF.2.2.2.2
  have hP : va_P D vwCl [(a_p0_ranks, .inl (cJ, 60, .inr (.inl c_p0_ranks)))] s.heap := hP
  have hD : va_D A [(a_p0_ranks, .inl (cJ, 60, .inr (.inl c_p0_ranks)))] := hD
  have hR0 : va_P D vwCl [(a_p0, .inr (2, [.ref a_p0_binomials, .ref a_p0_partitionCounts, .ref a_p0_treeCounts, .ref a_p0_sizes, .ref a_p0_starts, .ref a_p0_ranks, .ref a_p0_letters])), (a_p0_sizes, .inl (cI, 60, .inl c_p0_sizes)), (a_p0_treeCounts, .inl (cJ, 31, .inr (.inl c_p0_treeCounts)))] s.heap := hR0
  have hR := hR0
  have hl : lv_has ls 8 [(0, .ref a_p0), (1, .int v_p1), (2, .int v_p2), (3, .long v_p3)] := hl
  unfold fX7_splitRank at h
  refine lv_aload_n hx hb dX7_splitRank_0 rfl (lv_at hl 0 rfl) ?_
  refine va_getN (D := D) (ci := 2) (v := .ref a_p0_sizes) (C := RX2) (T := TX2) (N := 7) hx hb htc inX2 hown hV.1 hR 0 rfl rfl 3 (by decide) (va_Nw.use rfl (hV.2.1 _ nw_1_60)) (fun _ h9 => h9) rfl dX7_splitRank_1 ?_
  refine lv_iload_n hx hb dX7_splitRank_4 rfl (lv_at hl 1 rfl) ?_
  obtain ⟨r_5, hc_5, h⟩ := rk_bd h
  refine rk_i (wr := [(a_p0_ranks, .inl (cJ, 60, .inr (.inl c_p0_ranks)))]) (va_runSN (As := [.ref a_p0_sizes, .int v_p1]) (rest := []) hF (mtX9_at l D cI cJ cO PL _ a_p0_sizes 60 c_p0_sizes v_p1 r_5 hc_5) ⟨va_cnB 2 htc (rk_gw w_1_52) rfl rfl rfl (hV.2.1 _ nw_2_18) (htc _ w_1_1) (by decide +kernel) ⟨(Nat.le_of_ble_eq_true rfl), (Nat.le_of_ble_eq_true rfl)⟩, htc _ w_1_51, trivial⟩ (rk_preS hP hD hS hR hn hPL hnl hV [] [(false, 1)] rfl (by decide) rfl (by decide)) rfl rfl hl.1 rfl (lv_room (Nat.le_of_ble_eq_true rfl)) dX7_splitRank_5 ⟨(Nat.le_of_ble_eq_true rfl), (Nat.le_of_ble_eq_true rfl)⟩) hP hD hS hA hR0 hn [] [0] rfl rfl (by decide) (by decide) (fun H locs hP hD hS hR => ?_)
  have hP : va_P D vwCl [(a_p0_ranks, .inl (cJ, 60, .inr (.inl c_p0_ranks)))] H := hP
  have hD : va_D A [(a_p0_ranks, .inl (cJ, 60, .inr (.inl c_p0_ranks)))] := hD
  refine lv_iconst (v := 1) hx hb dX7_splitRank_8 (by decide) ?_
  refine lv_isub hx hb dX7_splitRank_9 ?_
  refine lv_iload_n hx hb dX7_splitRank_10 rfl (lv_at hl 2 rfl) ?_
  refine lv_isub hx hb dX7_splitRank_11 ?_
  refine lv_istore (lv' := [(5, .int ((r_5 - (1 : Int32)) - v_p2)), (0, .ref a_p0), (1, .int v_p1), (2, .int v_p2), (3, .long v_p3)]) hx hb dX7_splitRank_12 hl (by decide) rfl (fun ls hl => ?_)
  refine lv_aload_n hx hb dX7_splitRank_14 rfl (lv_at hl 1 rfl) ?_
  refine lv_iload hx hb dX7_splitRank_15 (lv_at hl 0 rfl) ?_
  obtain ⟨r_17, hc_17, h⟩ := rk_bd h
  refine rk_l (wr := [(a_p0_ranks, .inl (cJ, 60, .inr (.inl c_p0_ranks)))]) (va_runVN (C := RX2) (As := [.int ((r_5 - (1 : Int32)) - v_p2)]) (rest := []) hF (mtX2_trees l D cI cJ cO PL _ a_p0 a_p0_binomials a_p0_partitionCounts a_p0_treeCounts a_p0_sizes a_p0_starts a_p0_ranks a_p0_letters c_p0_treeCounts ((r_5 - (1 : Int32)) - v_p2) r_17 hc_17) ⟨va_cnB 1 htc (rk_gw w_2_23) rfl rfl rfl (hV.2.1 _ nw_2_20) (htc _ w_1_2) (by decide +kernel) ⟨(Nat.le_of_ble_eq_true rfl), (Nat.le_of_ble_eq_true rfl)⟩, htc _ w_2_22, htc _ ws_9⟩ (rk_preV (va_recv hV.1 hR (ci := 2) (q0 := 0) rfl rfl) (rk_preS hP hD hS hR hn hPL hnl hV [] [(false, 0), (false, 2)] rfl (by decide) rfl (by decide))) rfl rfl hl.1 rfl (lv_room (Nat.le_of_ble_eq_true rfl)) dX7_splitRank_17 ⟨(Nat.le_of_ble_eq_true rfl), (Nat.le_of_ble_eq_true rfl)⟩) hP hD hS hA hR0 hn [] [0] rfl rfl (by decide) (by decide) (fun H locs hP hD hS hR => ?_)
  have hP : va_P D vwCl [(a_p0_ranks, .inl (cJ, 60, .inr (.inl c_p0_ranks)))] H := hP
  have hD : va_D A [(a_p0_ranks, .inl (cJ, 60, .inr (.inl c_p0_ranks)))] := hD
  refine lv_lstore (lv' := [(6, .long r_17), (5, .int ((r_5 - (1 : Int32)) - v_p2)), (0, .ref a_p0), (1, .int v_p1), (2, .int v_p2), (3, .long v_p3)]) hx hb dX7_splitRank_20 hl (by decide) rfl (fun ls hl => ?_)
  refine lv_iload_n hx hb dX7_splitRank_22 rfl (lv_at hl 4 rfl) ?_
  have B42 : ∀ (b42_c_p0_ranks : Nat → Int64), fX7_splitRank_B42 v_p1 v_p2 v_p3 r_5 r_17 b42_c_p0_ranks = some r0 → ∀ (H : Heap) (locs : List Loc), va_P D vwCl [(a_p0_ranks, .inl (cJ, 60, .inr (.inl b42_c_p0_ranks)))] H → va_D A [(a_p0_ranks, .inl (cJ, 60, .inr (.inl b42_c_p0_ranks)))] → va_S A s.heap H locs → ∀ (ls : Array Slot), lv_has ls 8 [(0, .ref a_p0), (1, .int v_p1), (2, .int v_p2), (3, .long v_p3), (5, .int ((r_5 - (1 : Int32)) - v_p2)), (6, .long r_17)] → W p l e rmX7_splitRank s m args below meth c H locs 0 0 Q (F0 m 42 ls []) := by
    intro b42_c_p0_ranks h H locs hP hD hS ls hl
    unfold fX7_splitRank_B42 at h
    have hR := rk_keep hR0 hn hS
    refine lv_iload hx hb dX7_splitRank_42 (lv_at hl 4 rfl) ?_
    refine lv_if_le (tgt := 65) hx hb dX7_splitRank_44 (by decide) (fun hc1 => ?_) (fun hc1 => ?_)
    · have h := rk_if hc1 h
      exact hret b42_c_p0_ranks _ _ _ _ h dX7_splitRank_65 hP hD hS
    · have h := rk_nif hc1 h
      refine lv_aload_n hx hb dX7_splitRank_47 rfl (lv_at hl 0 rfl) ?_
      refine va_getN (D := D) (ci := 2) (v := .ref a_p0_ranks) (C := RX2) (T := TX2) (N := 7) hx hb htc inX2 hown hV.1 hR 0 rfl rfl 5 (by decide) (va_Nw.use rfl (hV.2.1 _ nw_1_65)) (fun _ h9 => h9) rfl dX7_splitRank_48 ?_
      refine lv_iload_n hx hb dX7_splitRank_51 rfl (lv_at hl 1 rfl) ?_
      refine lv_iconst (v := 1) hx hb dX7_splitRank_52 (by decide) ?_
      refine lv_iadd hx hb dX7_splitRank_53 ?_
      refine lv_iload_n hx hb dX7_splitRank_54 rfl (lv_at hl 2 rfl) ?_
      refine lv_iadd hx hb dX7_splitRank_55 ?_
      refine lv_lload_n hx hb dX7_splitRank_56 rfl (lv_at hl 3 rfl) ?_
      refine lv_lload hx hb dX7_splitRank_57 (lv_at hl 5 rfl) ?_
      obtain ⟨r_59, hc_59, h⟩ := rk_bd h
      refine rk_l (wr := [(a_p0_ranks, .inl (cJ, 60, .inr (.inl b42_c_p0_ranks)))]) (va_runSN (As := [.long v_p3, .long r_17]) (rest := [.int ((v_p1 + (1 : Int32)) + v_p2), .ref a_p0_ranks]) hF (mtX9_remainder l D cI cJ cO PL _ v_p3 r_17 r_59 hc_59) ⟨va_cnB 2 htc (rk_gw w_1_228) rfl rfl rfl (hV.2.1 _ nw_2_31) (htc _ w_1_1) (by decide +kernel) ⟨(Nat.le_of_ble_eq_true rfl), (Nat.le_of_ble_eq_true rfl)⟩, htc _ w_1_227, trivial⟩ (rk_preS hP hD hS hR hn hPL hnl hV [] [] rfl (by decide) rfl (by decide)) rfl rfl hl.1 rfl (lv_room (Nat.le_of_ble_eq_true rfl)) dX7_splitRank_59 ⟨(Nat.le_of_ble_eq_true rfl), (Nat.le_of_ble_eq_true rfl)⟩) hP hD hS hA hR0 hn [] [0] rfl rfl (by decide) (by decide) (fun H locs hP hD hS hR => ?_)
      have hP : va_P D vwCl [(a_p0_ranks, .inl (cJ, 60, .inr (.inl b42_c_p0_ranks)))] H := hP
      have hD : va_D A [(a_p0_ranks, .inl (cJ, 60, .inr (.inl b42_c_p0_ranks)))] := hD
      obtain ⟨r_62, hc_62, h⟩ := rk_bd h
      refine rk_v (wr := []) (va_runSN (As := [.ref a_p0_ranks, .int ((v_p1 + (1 : Int32)) + v_p2), .long r_59]) (rest := []) hF (mtX9_set_ l D cI cJ cO PL _ a_p0_ranks 60 b42_c_p0_ranks ((v_p1 + (1 : Int32)) + v_p2) r_59 r_62 hc_62) ⟨va_cnB 3 htc (rk_gw w_1_37) rfl rfl rfl (hV.2.1 _ nw_2_17) (htc _ w_1_1) (by decide +kernel) ⟨(Nat.le_of_ble_eq_true rfl), (Nat.le_of_ble_eq_true rfl)⟩, htc _ w_1_36, trivial⟩ (rk_preS hP hD hS hR hn hPL hnl hV [0] [] rfl (by decide) rfl (by decide)) rfl rfl hl.1 rfl (lv_room (Nat.le_of_ble_eq_true rfl)) dX7_splitRank_62 ⟨(Nat.le_of_ble_eq_true rfl), (Nat.le_of_ble_eq_true rfl)⟩) hP hD hS hA hR0 hn [0] [] rfl rfl (by decide) (by decide) (fun H locs hP hD hS hR => ?_)
      have hP : va_P D vwCl [(a_p0_ranks, .inl (cJ, 60, .inr (.inl r_62)))] H := hP
      have hD : va_D A [(a_p0_ranks, .inl (cJ, 60, .inr (.inl r_62)))] := hD
      exact hret r_62 _ _ _ _ h dX7_splitRank_65 hP hD hS
  refine lv_if_le (tgt := 42) hx hb dX7_splitRank_23 (by decide) (fun hc2 => ?_) (fun hc2 => ?_)
  · have h := rk_if hc2 h
    exact B42 c_p0_ranks h _ _ hP hD hS _ (lv_sub hl [2, 3, 4, 5, 1, 0] rfl)
  · have h := rk_nif hc2 h
    refine lv_aload_n hx hb dX7_splitRank_26 rfl (lv_at hl 2 rfl) ?_
    refine va_getN (D := D) (ci := 2) (v := .ref a_p0_ranks) (C := RX2) (T := TX2) (N := 7) hx hb htc inX2 hown hV.1 hR 0 rfl rfl 5 (by decide) (va_Nw.use rfl (hV.2.1 _ nw_1_65)) (fun _ h9 => h9) rfl dX7_splitRank_27 ?_
    refine lv_iload_n hx hb dX7_splitRank_30 rfl (lv_at hl 3 rfl) ?_
    refine lv_iconst (v := 1) hx hb dX7_splitRank_31 (by decide) ?_
    refine lv_iadd hx hb dX7_splitRank_32 ?_
    refine lv_lload_n hx hb dX7_splitRank_33 rfl (lv_at hl 5 rfl) ?_
    refine lv_lload hx hb dX7_splitRank_34 (lv_at hl 0 rfl) ?_
    obtain ⟨r_36, hc_36, h⟩ := rk_bd h
    refine rk_l (wr := [(a_p0_ranks, .inl (cJ, 60, .inr (.inl c_p0_ranks)))]) (va_runSN (As := [.long v_p3, .long r_17]) (rest := [.int (v_p1 + (1 : Int32)), .ref a_p0_ranks]) hF (mtX9_quotient l D cI cJ cO PL _ v_p3 r_17 r_36 hc_36) ⟨va_cnB 2 htc (rk_gw w_1_231) rfl rfl rfl (hV.2.1 _ nw_2_30) (htc _ w_1_1) (by decide +kernel) ⟨(Nat.le_of_ble_eq_true rfl), (Nat.le_of_ble_eq_true rfl)⟩, htc _ w_1_230, trivial⟩ (rk_preS hP hD hS hR hn hPL hnl hV [] [] rfl (by decide) rfl (by decide)) rfl rfl hl.1 rfl (lv_room (Nat.le_of_ble_eq_true rfl)) dX7_splitRank_36 ⟨(Nat.le_of_ble_eq_true rfl), (Nat.le_of_ble_eq_true rfl)⟩) hP hD hS hA hR0 hn [] [0] rfl rfl (by decide) (by decide) (fun H locs hP hD hS hR => ?_)
    have hP : va_P D vwCl [(a_p0_ranks, .inl (cJ, 60, .inr (.inl c_p0_ranks)))] H := hP
    have hD : va_D A [(a_p0_ranks, .inl (cJ, 60, .inr (.inl c_p0_ranks)))] := hD
    obtain ⟨r_39, hc_39, h⟩ := rk_bd h
    refine rk_v (wr := []) (va_runSN (As := [.ref a_p0_ranks, .int (v_p1 + (1 : Int32)), .long r_36]) (rest := []) hF (mtX9_set_ l D cI cJ cO PL _ a_p0_ranks 60 c_p0_ranks (v_p1 + (1 : Int32)) r_36 r_39 hc_39) ⟨va_cnB 3 htc (rk_gw w_1_37) rfl rfl rfl (hV.2.1 _ nw_2_17) (htc _ w_1_1) (by decide +kernel) ⟨(Nat.le_of_ble_eq_true rfl), (Nat.le_of_ble_eq_true rfl)⟩, htc _ w_1_36, trivial⟩ (rk_preS hP hD hS hR hn hPL hnl hV [0] [] rfl (by decide) rfl (by decide)) rfl rfl hl.1 rfl (lv_room (Nat.le_of_ble_eq_true rfl)) dX7_splitRank_39 ⟨(Nat.le_of_ble_eq_true rfl), (Nat.le_of_ble_eq_true rfl)⟩) hP hD hS hA hR0 hn [0] [] rfl rfl (by decide) (by decide) (fun H locs hP hD hS hR => ?_)
    have hP : va_P D vwCl [(a_p0_ranks, .inl (cJ, 60, .inr (.inl r_39)))] H := hP
    have hD : va_D A [(a_p0_ranks, .inl (cJ, 60, .inr (.inl r_39)))] := hD
    exact B42 r_39 h _ _ hP hD hS _ (lv_sub hl [2, 3, 4, 5, 1, 0] rfl)
set_option maxHeartbeats 4000000 in
set_option maxRecDepth 100000 in
theorem mtX7_lay (l : Launch) (D : va_G) (cI cJ cO : ClassId) (PL : va_W) (sz : Nat) (a_p3 : Nat) (c_p3 : Nat → Int32) (a_this : Nat) (f_this_number : Int32) (f_this_width : Int32) (f_this_size : Int64) (a_p4 : Nat) (a_p4_binomials : Nat) (a_p4_partitionCounts : Nat) (a_p4_treeCounts : Nat) (a_p4_sizes : Nat) (a_p4_starts : Nat) (a_p4_ranks : Nat) (a_p4_letters : Nat) (c_p4_letters : Nat → Int32) (c_p4_ranks : Nat → Int64) (c_p4_sizes : Nat → Int32) (c_p4_binomials : Nat → Int64) (c_p4_partitionCounts : Nat → Int32) (c_p4_treeCounts : Nat → Int64) (v_p1 : Int64) (r0 : (Nat → Int32) × (Nat → Int32) × (Nat → Int64) × (Nat → Int32)) (h : fX7_lay c_p3 f_this_width c_p4_letters c_p4_ranks c_p4_sizes c_p4_treeCounts v_p1 = some r0) : Met l yX7_lay (rk_w yX7_lay cX7_lay 13 none) rmX7_lay (va_Pc [.ref a_this, .long v_p1, .ref a_p3, .ref a_p4] (rk_B D (rk_TY cI cJ cO) [(a_p3, .inl (cI, 60, .inl c_p3)), (a_p4_letters, .inl (cI, 4, .inl c_p4_letters)), (a_p4_ranks, .inl (cJ, 60, .inr (.inl c_p4_ranks))), (a_p4_sizes, .inl (cI, 60, .inl c_p4_sizes))] [(a_this, .inr (6, [.int f_this_number, .int f_this_width, .long f_this_size])), (a_p4, .inr (2, [.ref a_p4_binomials, .ref a_p4_partitionCounts, .ref a_p4_treeCounts, .ref a_p4_sizes, .ref a_p4_starts, .ref a_p4_ranks, .ref a_p4_letters])), (a_p4_binomials, .inl (cJ, 1891, .inr (.inl c_p4_binomials))), (a_p4_partitionCounts, .inl (cI, 1891, .inl c_p4_partitionCounts)), (a_p4_treeCounts, .inl (cJ, 31, .inr (.inl c_p4_treeCounts)))] PL sz)) (rk_Qv D [(a_p3, .inl (cI, 60, .inl r0.1)), (a_p4_letters, .inl (cI, 4, .inl r0.2.1)), (a_p4_ranks, .inl (cJ, 60, .inr (.inl r0.2.2.1))), (a_p4_sizes, .inl (cI, 60, .inl r0.2.2.2))] [(a_p3, .inl (cI, 60, .inl c_p3)), (a_p4_letters, .inl (cI, 4, .inl c_p4_letters)), (a_p4_ranks, .inl (cJ, 60, .inr (.inl c_p4_ranks))), (a_p4_sizes, .inl (cI, 60, .inl c_p4_sizes))] sz) 0 0 (va_A [(a_p3, .inl (cI, 60, .inl c_p3)), (a_p4_letters, .inl (cI, 4, .inl c_p4_letters)), (a_p4_ranks, .inl (cJ, 60, .inr (.inl c_p4_ranks))), (a_p4_sizes, .inl (cI, 60, .inl c_p4_sizes))] sz) := by
  refine rk_metv h (fun x => [(a_p3, .inl (cI, 60, .inl x.1)), (a_p4_letters, .inl (cI, 4, .inl x.2.1)), (a_p4_ranks, .inl (cJ, 60, .inr (.inl x.2.2.1))), (a_p4_sizes, .inl (cI, 60, .inl x.2.2.2))]) (by decide) (Nat.le_of_ble_eq_true rfl) ?_
  intro p e s m args below meth c A ls Q hret hname hF hP hD hA hV hR0 hn hPL hnl hl h hS
  have hx := hF.1
  have hb := hF.2.1
  have hml := hF.2.2.1
  have hown : s.vm.findClass RX7 = some m.cls := hF.2.2.2.1
  have htc := hF.2.2.2.2
  have hP : va_P D vwCl [(a_p3, .inl (cI, 60, .inl c_p3)), (a_p4_letters, .inl (cI, 4, .inl c_p4_letters)), (a_p4_ranks, .inl (cJ, 60, .inr (.inl c_p4_ranks))), (a_p4_sizes, .inl (cI, 60, .inl c_p4_sizes))] s.heap := hP
  have hD : va_D A [(a_p3, .inl (cI, 60, .inl c_p3)), (a_p4_letters, .inl (cI, 4, .inl c_p4_letters)), (a_p4_ranks, .inl (cJ, 60, .inr (.inl c_p4_ranks))), (a_p4_sizes, .inl (cI, 60, .inl c_p4_sizes))] := hD
  have hR0 : va_P D vwCl [(a_this, .inr (6, [.int f_this_number, .int f_this_width, .long f_this_size])), (a_p4, .inr (2, [.ref a_p4_binomials, .ref a_p4_partitionCounts, .ref a_p4_treeCounts, .ref a_p4_sizes, .ref a_p4_starts, .ref a_p4_ranks, .ref a_p4_letters])), (a_p4_binomials, .inl (cJ, 1891, .inr (.inl c_p4_binomials))), (a_p4_partitionCounts, .inl (cI, 1891, .inl c_p4_partitionCounts)), (a_p4_treeCounts, .inl (cJ, 31, .inr (.inl c_p4_treeCounts)))] s.heap := hR0
  have hR := hR0
  have hl : lv_has ls 13 [(0, .ref a_this), (1, .long v_p1), (3, .ref a_p3), (4, .ref a_p4)] := hl
  unfold fX7_lay at h
  refine lv_aload hx hb dX7_lay_0 (lv_at hl 3 rfl) ?_
  refine va_getN (D := D) (ci := 2) (v := .ref a_p4_sizes) (C := RX2) (T := TX2) (N := 7) hx hb htc inX2 hown hV.1 hR 1 rfl rfl 3 (by decide) (va_Nw.use rfl (hV.2.1 _ nw_1_60)) (fun _ h9 => h9) rfl dX7_lay_2 ?_
  refine lv_iconst (v := 0) hx hb dX7_lay_5 (by decide) ?_
  refine lv_aload_n hx hb dX7_lay_6 rfl (lv_at hl 0 rfl) ?_
  refine va_get (D := D) (ci := 6) (v := .int f_this_width) (C := RX7) (T := TX7) (N := 3) hx hb htc inX7 hown hV.1 hR 0 rfl rfl 1 (by decide) (htc _ w_1_123) (fun _ h9 => u_same (htc _ w_1_124) _ h9) rfl dX7_lay_7 ?_
  obtain ⟨r_10, hc_10, h⟩ := rk_bd h
  refine rk_v (wr := [(a_p3, .inl (cI, 60, .inl c_p3)), (a_p4_letters, .inl (cI, 4, .inl c_p4_letters)), (a_p4_ranks, .inl (cJ, 60, .inr (.inl c_p4_ranks)))]) (va_runSN (As := [.ref a_p4_sizes, .int (0 : Int32), .int f_this_width]) (rest := []) hF (mtX9_set l D cI cJ cO PL _ a_p4_sizes 60 c_p4_sizes (0 : Int32) f_this_width r_10 hc_10) ⟨va_cnB 3 htc (rk_gw w_1_46) rfl rfl rfl (hV.2.1 _ nw_2_16) (htc _ w_1_1) (by decide +kernel) ⟨(Nat.le_of_ble_eq_true rfl), (Nat.le_of_ble_eq_true rfl)⟩, htc _ w_1_45, trivial⟩ (rk_preS hP hD hS hR hn hPL hnl hV [3] [] rfl (by decide) rfl (by decide)) rfl rfl hl.1 rfl (lv_room (Nat.le_of_ble_eq_true rfl)) dX7_lay_10 ⟨(Nat.le_of_ble_eq_true rfl), (Nat.le_of_ble_eq_true rfl)⟩) hP hD hS hA hR0 hn [3] [0, 1, 2] rfl rfl (by decide) (by decide) (fun H locs hP hD hS hR => ?_)
  have hP : va_P D vwCl [(a_p3, .inl (cI, 60, .inl c_p3)), (a_p4_letters, .inl (cI, 4, .inl c_p4_letters)), (a_p4_ranks, .inl (cJ, 60, .inr (.inl c_p4_ranks))), (a_p4_sizes, .inl (cI, 60, .inl r_10))] H := hP
  have hD : va_D A [(a_p3, .inl (cI, 60, .inl c_p3)), (a_p4_letters, .inl (cI, 4, .inl c_p4_letters)), (a_p4_ranks, .inl (cJ, 60, .inr (.inl c_p4_ranks))), (a_p4_sizes, .inl (cI, 60, .inl r_10))] := hD
  refine lv_aload hx hb dX7_lay_13 (lv_at hl 3 rfl) ?_
  refine va_getN (D := D) (ci := 2) (v := .ref a_p4_ranks) (C := RX2) (T := TX2) (N := 7) hx hb htc inX2 hown hV.1 hR 1 rfl rfl 5 (by decide) (va_Nw.use rfl (hV.2.1 _ nw_1_65)) (fun _ h9 => h9) rfl dX7_lay_15 ?_
  refine lv_iconst (v := 0) hx hb dX7_lay_18 (by decide) ?_
  refine lv_lload_n hx hb dX7_lay_19 rfl (lv_at hl 1 rfl) ?_
  obtain ⟨r_20, hc_20, h⟩ := rk_bd h
  refine rk_v (wr := [(a_p3, .inl (cI, 60, .inl c_p3)), (a_p4_letters, .inl (cI, 4, .inl c_p4_letters)), (a_p4_sizes, .inl (cI, 60, .inl r_10))]) (va_runSN (As := [.ref a_p4_ranks, .int (0 : Int32), .long v_p1]) (rest := []) hF (mtX9_set_ l D cI cJ cO PL _ a_p4_ranks 60 c_p4_ranks (0 : Int32) v_p1 r_20 hc_20) ⟨va_cnB 3 htc (rk_gw w_1_37) rfl rfl rfl (hV.2.1 _ nw_2_17) (htc _ w_1_1) (by decide +kernel) ⟨(Nat.le_of_ble_eq_true rfl), (Nat.le_of_ble_eq_true rfl)⟩, htc _ w_1_36, trivial⟩ (rk_preS hP hD hS hR hn hPL hnl hV [2] [] rfl (by decide) rfl (by decide)) rfl rfl hl.1 rfl (lv_room (Nat.le_of_ble_eq_true rfl)) dX7_lay_20 ⟨(Nat.le_of_ble_eq_true rfl), (Nat.le_of_ble_eq_true rfl)⟩) hP hD hS hA hR0 hn [2] [0, 1, 3] rfl rfl (by decide) (by decide) (fun H locs hP hD hS hR => ?_)
  have hP : va_P D vwCl [(a_p3, .inl (cI, 60, .inl c_p3)), (a_p4_letters, .inl (cI, 4, .inl c_p4_letters)), (a_p4_sizes, .inl (cI, 60, .inl r_10)), (a_p4_ranks, .inl (cJ, 60, .inr (.inl r_20)))] H := hP
  have hD : va_D A [(a_p3, .inl (cI, 60, .inl c_p3)), (a_p4_letters, .inl (cI, 4, .inl c_p4_letters)), (a_p4_sizes, .inl (cI, 60, .inl r_10)), (a_p4_ranks, .inl (cJ, 60, .inr (.inl r_20)))] := hD
  refine lv_iconst (v := 0) hx hb dX7_lay_23 (by decide) ?_
  refine lv_istore (lv' := [(5, .int (0 : Int32)), (0, .ref a_this), (1, .long v_p1), (3, .ref a_p3), (4, .ref a_p4)]) hx hb dX7_lay_24 hl (by decide) rfl (fun ls hl => ?_)
  have L26 : ∀ (n26 : Nat) (b26_l5 : Int32) (b26_c_p3 : Nat → Int32) (b26_c_p4_ranks : Nat → Int64) (b26_c_p4_sizes : Nat → Int32), rk_it4 (fX7_lay_L26 f_this_width c_p4_letters c_p4_treeCounts) n26 b26_l5 b26_c_p3 b26_c_p4_ranks b26_c_p4_sizes = some r0 → ∀ (H : Heap) (locs : List Loc), va_P D vwCl [(a_p3, .inl (cI, 60, .inl b26_c_p3)), (a_p4_letters, .inl (cI, 4, .inl c_p4_letters)), (a_p4_sizes, .inl (cI, 60, .inl b26_c_p4_sizes)), (a_p4_ranks, .inl (cJ, 60, .inr (.inl b26_c_p4_ranks)))] H → va_D A [(a_p3, .inl (cI, 60, .inl b26_c_p3)), (a_p4_letters, .inl (cI, 4, .inl c_p4_letters)), (a_p4_sizes, .inl (cI, 60, .inl b26_c_p4_sizes)), (a_p4_ranks, .inl (cJ, 60, .inr (.inl b26_c_p4_ranks)))] → va_S A s.heap H locs → ∀ (ls : Array Slot), lv_has ls 13 [(0, .ref a_this), (3, .ref a_p3), (4, .ref a_p4), (5, .int b26_l5)] → W p l e rmX7_lay s m args below meth c H locs 0 0 Q (F0 m 26 ls []) := by
    intro n26
    induction n26 with
    | zero => intro b26_l5 b26_c_p3 b26_c_p4_ranks b26_c_p4_sizes h; exact rk_no h
    | succ n26 ih26 =>
      intro b26_l5 b26_c_p3 b26_c_p4_ranks b26_c_p4_sizes h H locs hP hD hS ls hl
      have h : fX7_lay_L26 f_this_width c_p4_letters c_p4_treeCounts (rk_it4 (fX7_lay_L26 f_this_width c_p4_letters c_p4_treeCounts) n26) b26_l5 b26_c_p3 b26_c_p4_ranks b26_c_p4_sizes = some r0 := h
      unfold fX7_lay_L26 at h
      have hR := rk_keep hR0 hn hS
      refine lv_iload hx hb dX7_lay_26 (lv_at hl 3 rfl) ?_
      refine lv_aload_n hx hb dX7_lay_28 rfl (lv_at hl 0 rfl) ?_
      refine va_get (D := D) (ci := 6) (v := .int f_this_width) (C := RX7) (T := TX7) (N := 3) hx hb htc inX7 hown hV.1 hR 0 rfl rfl 1 (by decide) (htc _ w_1_123) (fun _ h9 => u_same (htc _ w_1_124) _ h9) rfl dX7_lay_29 ?_
      refine lv_icmp_ge (tgt := 161) hx hb dX7_lay_32 (by decide) (fun hc1 => ?_) (fun hc1 => ?_)
      · have h := rk_if hc1 h
        exact hret (b26_c_p3, c_p4_letters, b26_c_p4_ranks, b26_c_p4_sizes) _ _ _ _ h dX7_lay_161 (hP.sub [0, 1, 3, 2] rfl) (hD.sub [0, 1, 3, 2] (by decide) rfl) hS
      · have h := rk_nif hc1 h
        refine lv_aload hx hb dX7_lay_35 (lv_at hl 2 rfl) ?_
        refine va_getN (D := D) (ci := 2) (v := .ref a_p4_sizes) (C := RX2) (T := TX2) (N := 7) hx hb htc inX2 hown hV.1 hR 1 rfl rfl 3 (by decide) (va_Nw.use rfl (hV.2.1 _ nw_1_60)) (fun _ h9 => h9) rfl dX7_lay_37 ?_
        refine lv_iload hx hb dX7_lay_40 (lv_at hl 3 rfl) ?_
        obtain ⟨r_42, hc_42, h⟩ := rk_bd h
        refine rk_i (wr := [(a_p3, .inl (cI, 60, .inl b26_c_p3)), (a_p4_letters, .inl (cI, 4, .inl c_p4_letters)), (a_p4_sizes, .inl (cI, 60, .inl b26_c_p4_sizes)), (a_p4_ranks, .inl (cJ, 60, .inr (.inl b26_c_p4_ranks)))]) (va_runSN (As := [.ref a_p4_sizes, .int b26_l5]) (rest := []) hF (mtX9_at l D cI cJ cO PL _ a_p4_sizes 60 b26_c_p4_sizes b26_l5 r_42 hc_42) ⟨va_cnB 2 htc (rk_gw w_1_52) rfl rfl rfl (hV.2.1 _ nw_2_18) (htc _ w_1_1) (by decide +kernel) ⟨(Nat.le_of_ble_eq_true rfl), (Nat.le_of_ble_eq_true rfl)⟩, htc _ w_1_51, trivial⟩ (rk_preS hP hD hS hR hn hPL hnl hV [] [(true, 2)] rfl (by decide) rfl (by decide)) rfl rfl hl.1 rfl (lv_room (Nat.le_of_ble_eq_true rfl)) dX7_lay_42 ⟨(Nat.le_of_ble_eq_true rfl), (Nat.le_of_ble_eq_true rfl)⟩) hP hD hS hA hR0 hn [] [0, 1, 2, 3] rfl rfl (by decide) (by decide) (fun H locs hP hD hS hR => ?_)
        have hP : va_P D vwCl [(a_p3, .inl (cI, 60, .inl b26_c_p3)), (a_p4_letters, .inl (cI, 4, .inl c_p4_letters)), (a_p4_sizes, .inl (cI, 60, .inl b26_c_p4_sizes)), (a_p4_ranks, .inl (cJ, 60, .inr (.inl b26_c_p4_ranks)))] H := hP
        have hD : va_D A [(a_p3, .inl (cI, 60, .inl b26_c_p3)), (a_p4_letters, .inl (cI, 4, .inl c_p4_letters)), (a_p4_sizes, .inl (cI, 60, .inl b26_c_p4_sizes)), (a_p4_ranks, .inl (cJ, 60, .inr (.inl b26_c_p4_ranks)))] := hD
        refine lv_iconst (v := 1) hx hb dX7_lay_45 (by decide) ?_
        refine lv_isub hx hb dX7_lay_46 ?_
        refine lv_istore (lv' := [(6, .int (r_42 - (1 : Int32))), (0, .ref a_this), (3, .ref a_p3), (4, .ref a_p4), (5, .int b26_l5)]) hx hb dX7_lay_47 hl (by decide) rfl (fun ls hl => ?_)
        refine lv_aload hx hb dX7_lay_49 (lv_at hl 3 rfl) ?_
        refine va_getN (D := D) (ci := 2) (v := .ref a_p4_ranks) (C := RX2) (T := TX2) (N := 7) hx hb htc inX2 hown hV.1 hR 1 rfl rfl 5 (by decide) (va_Nw.use rfl (hV.2.1 _ nw_1_65)) (fun _ h9 => h9) rfl dX7_lay_51 ?_
        refine lv_iload hx hb dX7_lay_54 (lv_at hl 4 rfl) ?_
        obtain ⟨r_56, hc_56, h⟩ := rk_bd h
        refine rk_l (wr := [(a_p3, .inl (cI, 60, .inl b26_c_p3)), (a_p4_letters, .inl (cI, 4, .inl c_p4_letters)), (a_p4_sizes, .inl (cI, 60, .inl b26_c_p4_sizes)), (a_p4_ranks, .inl (cJ, 60, .inr (.inl b26_c_p4_ranks)))]) (va_runSN (As := [.ref a_p4_ranks, .int b26_l5]) (rest := []) hF (mtX9_at_ l D cI cJ cO PL _ a_p4_ranks 60 b26_c_p4_ranks b26_l5 r_56 hc_56) ⟨va_cnB 2 htc (rk_gw w_1_40) rfl rfl rfl (hV.2.1 _ nw_2_19) (htc _ w_1_1) (by decide +kernel) ⟨(Nat.le_of_ble_eq_true rfl), (Nat.le_of_ble_eq_true rfl)⟩, htc _ w_1_39, trivial⟩ (rk_preS hP hD hS hR hn hPL hnl hV [] [(true, 3)] rfl (by decide) rfl (by decide)) rfl rfl hl.1 rfl (lv_room (Nat.le_of_ble_eq_true rfl)) dX7_lay_56 ⟨(Nat.le_of_ble_eq_true rfl), (Nat.le_of_ble_eq_true rfl)⟩) hP hD hS hA hR0 hn [] [0, 1, 2, 3] rfl rfl (by decide) (by decide) (fun H locs hP hD hS hR => ?_)
        have hP : va_P D vwCl [(a_p3, .inl (cI, 60, .inl b26_c_p3)), (a_p4_letters, .inl (cI, 4, .inl c_p4_letters)), (a_p4_sizes, .inl (cI, 60, .inl b26_c_p4_sizes)), (a_p4_ranks, .inl (cJ, 60, .inr (.inl b26_c_p4_ranks)))] H := hP
        have hD : va_D A [(a_p3, .inl (cI, 60, .inl b26_c_p3)), (a_p4_letters, .inl (cI, 4, .inl c_p4_letters)), (a_p4_sizes, .inl (cI, 60, .inl b26_c_p4_sizes)), (a_p4_ranks, .inl (cJ, 60, .inr (.inl b26_c_p4_ranks)))] := hD
        refine lv_lstore (lv' := [(7, .long r_56), (6, .int (r_42 - (1 : Int32))), (0, .ref a_this), (3, .ref a_p3), (4, .ref a_p4), (5, .int b26_l5)]) hx hb dX7_lay_59 hl (by decide) rfl (fun ls hl => ?_)
        refine lv_iconst (v := 0) hx hb dX7_lay_61 (by decide) ?_
        refine lv_istore (lv' := [(9, .int (0 : Int32)), (7, .long r_56), (6, .int (r_42 - (1 : Int32))), (0, .ref a_this), (3, .ref a_p3), (4, .ref a_p4), (5, .int b26_l5)]) hx hb dX7_lay_62 hl (by decide) rfl (fun ls hl => ?_)
        refine lv_iconst (v := 0) hx hb dX7_lay_64 (by decide) ?_
        refine lv_istore (lv' := [(10, .int (0 : Int32)), (9, .int (0 : Int32)), (7, .long r_56), (6, .int (r_42 - (1 : Int32))), (0, .ref a_this), (3, .ref a_p3), (4, .ref a_p4), (5, .int b26_l5)]) hx hb dX7_lay_65 hl (by decide) rfl (fun ls hl => ?_)
        have L67 : ∀ (n67 : Nat) (b67_l7 : Int64) (b67_l9 : Int32) (b67_l10 : Int32), rk_it3 (fX7_lay_L67 c_p4_treeCounts b26_l5 b26_c_p3 b26_c_p4_ranks b26_c_p4_sizes (rk_it4 (fX7_lay_L26 f_this_width c_p4_letters c_p4_treeCounts) n26) r_42) n67 b67_l7 b67_l9 b67_l10 = some r0 → ∀ (H : Heap) (locs : List Loc), va_P D vwCl [(a_p3, .inl (cI, 60, .inl b26_c_p3)), (a_p4_letters, .inl (cI, 4, .inl c_p4_letters)), (a_p4_sizes, .inl (cI, 60, .inl b26_c_p4_sizes)), (a_p4_ranks, .inl (cJ, 60, .inr (.inl b26_c_p4_ranks)))] H → va_D A [(a_p3, .inl (cI, 60, .inl b26_c_p3)), (a_p4_letters, .inl (cI, 4, .inl c_p4_letters)), (a_p4_sizes, .inl (cI, 60, .inl b26_c_p4_sizes)), (a_p4_ranks, .inl (cJ, 60, .inr (.inl b26_c_p4_ranks)))] → va_S A s.heap H locs → ∀ (ls : Array Slot), lv_has ls 13 [(0, .ref a_this), (3, .ref a_p3), (4, .ref a_p4), (5, .int b26_l5), (6, .int (r_42 - (1 : Int32))), (7, .long b67_l7), (9, .int b67_l9), (10, .int b67_l10)] → W p l e rmX7_lay s m args below meth c H locs 0 0 Q (F0 m 67 ls []) := by
          intro n67
          induction n67 with
          | zero => intro b67_l7 b67_l9 b67_l10 h; exact rk_no h
          | succ n67 ih67 =>
            intro b67_l7 b67_l9 b67_l10 h H locs hP hD hS ls hl
            have h : fX7_lay_L67 c_p4_treeCounts b26_l5 b26_c_p3 b26_c_p4_ranks b26_c_p4_sizes (rk_it4 (fX7_lay_L26 f_this_width c_p4_letters c_p4_treeCounts) n26) r_42 (rk_it3 (fX7_lay_L67 c_p4_treeCounts b26_l5 b26_c_p3 b26_c_p4_ranks b26_c_p4_sizes (rk_it4 (fX7_lay_L26 f_this_width c_p4_letters c_p4_treeCounts) n26) r_42) n67) b67_l7 b67_l9 b67_l10 = some r0 := h
            unfold fX7_lay_L67 at h
            have hR := rk_keep hR0 hn hS
            refine lv_iload hx hb dX7_lay_67 (lv_at hl 7 rfl) ?_
            refine lv_iload hx hb dX7_lay_69 (lv_at hl 4 rfl) ?_
            have B124 : fX7_lay_B124 c_p4_treeCounts b26_l5 b26_c_p3 b26_c_p4_ranks b26_c_p4_sizes (rk_it4 (fX7_lay_L26 f_this_width c_p4_letters c_p4_treeCounts) n26) b67_l7 b67_l9 = some r0 → ∀ (H : Heap) (locs : List Loc), va_P D vwCl [(a_p3, .inl (cI, 60, .inl b26_c_p3)), (a_p4_letters, .inl (cI, 4, .inl c_p4_letters)), (a_p4_sizes, .inl (cI, 60, .inl b26_c_p4_sizes)), (a_p4_ranks, .inl (cJ, 60, .inr (.inl b26_c_p4_ranks)))] H → va_D A [(a_p3, .inl (cI, 60, .inl b26_c_p3)), (a_p4_letters, .inl (cI, 4, .inl c_p4_letters)), (a_p4_sizes, .inl (cI, 60, .inl b26_c_p4_sizes)), (a_p4_ranks, .inl (cJ, 60, .inr (.inl b26_c_p4_ranks)))] → va_S A s.heap H locs → ∀ (ls : Array Slot), lv_has ls 13 [(0, .ref a_this), (3, .ref a_p3), (4, .ref a_p4), (5, .int b26_l5), (7, .long b67_l7), (9, .int b67_l9)] → W p l e rmX7_lay s m args below meth c H locs 0 0 Q (F0 m 124 ls []) := by
              intro  h H locs hP hD hS ls hl
              unfold fX7_lay_B124 at h
              have hR := rk_keep hR0 hn hS
              refine lv_aload_n hx hb dX7_lay_124 rfl (lv_at hl 1 rfl) ?_
              refine lv_iload hx hb dX7_lay_125 (lv_at hl 3 rfl) ?_
              refine lv_iload hx hb dX7_lay_127 (lv_at hl 5 rfl) ?_
              obtain ⟨r_129, hc_129, h⟩ := rk_bd h
              refine rk_v (wr := [(a_p4_letters, .inl (cI, 4, .inl c_p4_letters)), (a_p4_sizes, .inl (cI, 60, .inl b26_c_p4_sizes)), (a_p4_ranks, .inl (cJ, 60, .inr (.inl b26_c_p4_ranks)))]) (va_runSN (As := [.ref a_p3, .int b26_l5, .int b67_l9]) (rest := []) hF (mtX9_set l D cI cJ cO PL _ a_p3 60 b26_c_p3 b26_l5 b67_l9 r_129 hc_129) ⟨va_cnB 3 htc (rk_gw w_1_46) rfl rfl rfl (hV.2.1 _ nw_2_16) (htc _ w_1_1) (by decide +kernel) ⟨(Nat.le_of_ble_eq_true rfl), (Nat.le_of_ble_eq_true rfl)⟩, htc _ w_1_45, trivial⟩ (rk_preS hP hD hS hR hn hPL hnl hV [0] [] rfl (by decide) rfl (by decide)) rfl rfl hl.1 rfl (lv_room (Nat.le_of_ble_eq_true rfl)) dX7_lay_129 ⟨(Nat.le_of_ble_eq_true rfl), (Nat.le_of_ble_eq_true rfl)⟩) hP hD hS hA hR0 hn [0] [1, 2, 3] rfl rfl (by decide) (by decide) (fun H locs hP hD hS hR => ?_)
              have hP : va_P D vwCl [(a_p4_letters, .inl (cI, 4, .inl c_p4_letters)), (a_p4_sizes, .inl (cI, 60, .inl b26_c_p4_sizes)), (a_p4_ranks, .inl (cJ, 60, .inr (.inl b26_c_p4_ranks))), (a_p3, .inl (cI, 60, .inl r_129))] H := hP
              have hD : va_D A [(a_p4_letters, .inl (cI, 4, .inl c_p4_letters)), (a_p4_sizes, .inl (cI, 60, .inl b26_c_p4_sizes)), (a_p4_ranks, .inl (cJ, 60, .inr (.inl b26_c_p4_ranks))), (a_p3, .inl (cI, 60, .inl r_129))] := hD
              refine lv_aload hx hb dX7_lay_132 (lv_at hl 2 rfl) ?_
              refine va_getN (D := D) (ci := 2) (v := .ref a_p4_sizes) (C := RX2) (T := TX2) (N := 7) hx hb htc inX2 hown hV.1 hR 1 rfl rfl 3 (by decide) (va_Nw.use rfl (hV.2.1 _ nw_1_60)) (fun _ h9 => h9) rfl dX7_lay_134 ?_
              refine lv_iload hx hb dX7_lay_137 (lv_at hl 3 rfl) ?_
              refine lv_iload hx hb dX7_lay_139 (lv_at hl 5 rfl) ?_
              obtain ⟨r_141, hc_141, h⟩ := rk_bd h
              refine rk_v (wr := [(a_p4_letters, .inl (cI, 4, .inl c_p4_letters)), (a_p4_ranks, .inl (cJ, 60, .inr (.inl b26_c_p4_ranks))), (a_p3, .inl (cI, 60, .inl r_129))]) (va_runS (As := [.ref a_p4_sizes, .int b26_l5, .int b67_l9]) (rest := []) hF (mtX7_splitSize l D cI cJ cO PL _ a_p4_sizes b26_c_p4_sizes b26_l5 b67_l9 r_141 hc_141) (va_cwS 3 htc (rk_gVS w_2_24 w_2_25 w_1_10 w_2_26) rfl rfl rfl (by decide +kernel) ⟨(Nat.le_of_ble_eq_true rfl), (Nat.le_of_ble_eq_true rfl)⟩) (rk_preS hP hD hS hR hn hPL hnl hV [1] [] rfl (by decide) rfl (by decide)) rfl rfl hl.1 rfl (lv_room (Nat.le_of_ble_eq_true rfl)) dX7_lay_141 ⟨(Nat.le_of_ble_eq_true rfl), (Nat.le_of_ble_eq_true rfl)⟩) hP hD hS hA hR0 hn [1] [0, 2, 3] rfl rfl (by decide) (by decide) (fun H locs hP hD hS hR => ?_)
              have hP : va_P D vwCl [(a_p4_letters, .inl (cI, 4, .inl c_p4_letters)), (a_p4_ranks, .inl (cJ, 60, .inr (.inl b26_c_p4_ranks))), (a_p3, .inl (cI, 60, .inl r_129)), (a_p4_sizes, .inl (cI, 60, .inl r_141))] H := hP
              have hD : va_D A [(a_p4_letters, .inl (cI, 4, .inl c_p4_letters)), (a_p4_ranks, .inl (cJ, 60, .inr (.inl b26_c_p4_ranks))), (a_p3, .inl (cI, 60, .inl r_129)), (a_p4_sizes, .inl (cI, 60, .inl r_141))] := hD
              refine lv_aload hx hb dX7_lay_144 (lv_at hl 2 rfl) ?_
              refine lv_iload hx hb dX7_lay_146 (lv_at hl 3 rfl) ?_
              refine lv_iload hx hb dX7_lay_148 (lv_at hl 5 rfl) ?_
              refine lv_lload hx hb dX7_lay_150 (lv_at hl 4 rfl) ?_
              obtain ⟨r_152, hc_152, h⟩ := rk_bd h
              refine rk_v (wr := [(a_p4_letters, .inl (cI, 4, .inl c_p4_letters)), (a_p3, .inl (cI, 60, .inl r_129)), (a_p4_sizes, .inl (cI, 60, .inl r_141))]) (va_runS (As := [.ref a_p4, .int b26_l5, .int b67_l9, .long b67_l7]) (rest := []) hF (mtX7_splitRank l D cI cJ cO PL _ a_p4 a_p4_binomials a_p4_partitionCounts a_p4_treeCounts a_p4_sizes a_p4_starts a_p4_ranks a_p4_letters b26_c_p4_ranks r_141 c_p4_treeCounts b26_l5 b67_l9 b67_l7 r_152 hc_152) (va_cwS 4 htc (rk_gVS w_2_27 w_2_28 w_1_10 w_2_29) rfl rfl rfl (by decide +kernel) ⟨(Nat.le_of_ble_eq_true rfl), (Nat.le_of_ble_eq_true rfl)⟩) (rk_preS hP hD hS hR hn hPL hnl hV [1] [(false, 1), (true, 3), (false, 4)] rfl (by decide) rfl (by decide)) rfl rfl hl.1 rfl (lv_room (Nat.le_of_ble_eq_true rfl)) dX7_lay_152 ⟨(Nat.le_of_ble_eq_true rfl), (Nat.le_of_ble_eq_true rfl)⟩) hP hD hS hA hR0 hn [1] [0, 2, 3] rfl rfl (by decide) (by decide) (fun H locs hP hD hS hR => ?_)
              have hP : va_P D vwCl [(a_p4_letters, .inl (cI, 4, .inl c_p4_letters)), (a_p3, .inl (cI, 60, .inl r_129)), (a_p4_sizes, .inl (cI, 60, .inl r_141)), (a_p4_ranks, .inl (cJ, 60, .inr (.inl r_152)))] H := hP
              have hD : va_D A [(a_p4_letters, .inl (cI, 4, .inl c_p4_letters)), (a_p3, .inl (cI, 60, .inl r_129)), (a_p4_sizes, .inl (cI, 60, .inl r_141)), (a_p4_ranks, .inl (cJ, 60, .inr (.inl r_152)))] := hD
              refine lv_iinc (v := (b26_l5 + 1)) (lv' := [(5, .int (b26_l5 + 1)), (0, .ref a_this), (3, .ref a_p3), (4, .ref a_p4), (7, .long b67_l7), (9, .int b67_l9)]) hx hb dX7_lay_155 hl (k := 3) rfl rfl (by decide) rfl (fun ls hl => ?_)
              refine lv_goto (tgt := 26) hx hb dX7_lay_158 (by decide) ?_
              exact ih26 (b26_l5 + 1) r_129 r_152 r_141 h _ _ (hP.sub [1, 0, 2, 3] rfl) (hD.sub [1, 0, 2, 3] (by decide) rfl) hS _ (lv_sub hl [1, 2, 3, 0] rfl)
            refine lv_icmp_ge (tgt := 124) hx hb dX7_lay_71 (by decide) (fun hc2 => ?_) (fun hc2 => ?_)
            · have h := rk_if hc2 h
              exact B124  h _ _ hP hD hS _ (lv_sub hl [0, 1, 2, 3, 5, 6] rfl)
            · have h := rk_nif hc2 h
              refine lv_aload hx hb dX7_lay_74 (lv_at hl 2 rfl) ?_
              refine lv_iload hx hb dX7_lay_76 (lv_at hl 7 rfl) ?_
              obtain ⟨r_78, hc_78, h⟩ := rk_bd h
              refine rk_l (wr := [(a_p3, .inl (cI, 60, .inl b26_c_p3)), (a_p4_letters, .inl (cI, 4, .inl c_p4_letters)), (a_p4_sizes, .inl (cI, 60, .inl b26_c_p4_sizes)), (a_p4_ranks, .inl (cJ, 60, .inr (.inl b26_c_p4_ranks)))]) (va_runVN (C := RX2) (As := [.int b67_l10]) (rest := []) hF (mtX2_trees l D cI cJ cO PL _ a_p4 a_p4_binomials a_p4_partitionCounts a_p4_treeCounts a_p4_sizes a_p4_starts a_p4_ranks a_p4_letters c_p4_treeCounts b67_l10 r_78 hc_78) ⟨va_cnB 1 htc (rk_gw w_2_23) rfl rfl rfl (hV.2.1 _ nw_2_20) (htc _ w_1_2) (by decide +kernel) ⟨(Nat.le_of_ble_eq_true rfl), (Nat.le_of_ble_eq_true rfl)⟩, htc _ w_2_22, htc _ ws_9⟩ (rk_preV (va_recv hV.1 hR (ci := 2) (q0 := 1) rfl rfl) (rk_preS hP hD hS hR hn hPL hnl hV [] [(false, 1), (false, 4)] rfl (by decide) rfl (by decide))) rfl rfl hl.1 rfl (lv_room (Nat.le_of_ble_eq_true rfl)) dX7_lay_78 ⟨(Nat.le_of_ble_eq_true rfl), (Nat.le_of_ble_eq_true rfl)⟩) hP hD hS hA hR0 hn [] [0, 1, 2, 3] rfl rfl (by decide) (by decide) (fun H locs hP hD hS hR => ?_)
              have hP : va_P D vwCl [(a_p3, .inl (cI, 60, .inl b26_c_p3)), (a_p4_letters, .inl (cI, 4, .inl c_p4_letters)), (a_p4_sizes, .inl (cI, 60, .inl b26_c_p4_sizes)), (a_p4_ranks, .inl (cJ, 60, .inr (.inl b26_c_p4_ranks)))] H := hP
              have hD : va_D A [(a_p3, .inl (cI, 60, .inl b26_c_p3)), (a_p4_letters, .inl (cI, 4, .inl c_p4_letters)), (a_p4_sizes, .inl (cI, 60, .inl b26_c_p4_sizes)), (a_p4_ranks, .inl (cJ, 60, .inr (.inl b26_c_p4_ranks)))] := hD
              refine lv_aload hx hb dX7_lay_81 (lv_at hl 2 rfl) ?_
              refine lv_iload hx hb dX7_lay_83 (lv_at hl 4 rfl) ?_
              refine lv_iload hx hb dX7_lay_85 (lv_at hl 7 rfl) ?_
              refine lv_isub hx hb dX7_lay_87 ?_
              obtain ⟨r_88, hc_88, h⟩ := rk_bd h
              refine rk_l (wr := [(a_p3, .inl (cI, 60, .inl b26_c_p3)), (a_p4_letters, .inl (cI, 4, .inl c_p4_letters)), (a_p4_sizes, .inl (cI, 60, .inl b26_c_p4_sizes)), (a_p4_ranks, .inl (cJ, 60, .inr (.inl b26_c_p4_ranks)))]) (va_runVN (C := RX2) (As := [.int ((r_42 - (1 : Int32)) - b67_l10)]) (rest := [.long r_78]) hF (mtX2_trees l D cI cJ cO PL _ a_p4 a_p4_binomials a_p4_partitionCounts a_p4_treeCounts a_p4_sizes a_p4_starts a_p4_ranks a_p4_letters c_p4_treeCounts ((r_42 - (1 : Int32)) - b67_l10) r_88 hc_88) ⟨va_cnB 1 htc (rk_gw w_2_23) rfl rfl rfl (hV.2.1 _ nw_2_20) (htc _ w_1_2) (by decide +kernel) ⟨(Nat.le_of_ble_eq_true rfl), (Nat.le_of_ble_eq_true rfl)⟩, htc _ w_2_22, htc _ ws_9⟩ (rk_preV (va_recv hV.1 hR (ci := 2) (q0 := 1) rfl rfl) (rk_preS hP hD hS hR hn hPL hnl hV [] [(false, 1), (false, 4)] rfl (by decide) rfl (by decide))) rfl rfl hl.1 rfl (lv_room (Nat.le_of_ble_eq_true rfl)) dX7_lay_88 ⟨(Nat.le_of_ble_eq_true rfl), (Nat.le_of_ble_eq_true rfl)⟩) hP hD hS hA hR0 hn [] [0, 1, 2, 3] rfl rfl (by decide) (by decide) (fun H locs hP hD hS hR => ?_)
              have hP : va_P D vwCl [(a_p3, .inl (cI, 60, .inl b26_c_p3)), (a_p4_letters, .inl (cI, 4, .inl c_p4_letters)), (a_p4_sizes, .inl (cI, 60, .inl b26_c_p4_sizes)), (a_p4_ranks, .inl (cJ, 60, .inr (.inl b26_c_p4_ranks)))] H := hP
              have hD : va_D A [(a_p3, .inl (cI, 60, .inl b26_c_p3)), (a_p4_letters, .inl (cI, 4, .inl c_p4_letters)), (a_p4_sizes, .inl (cI, 60, .inl b26_c_p4_sizes)), (a_p4_ranks, .inl (cJ, 60, .inr (.inl b26_c_p4_ranks)))] := hD
              refine lv_lmul hx hb dX7_lay_91 ?_
              refine lv_lstore (lv' := [(11, .long (r_78 * r_88)), (0, .ref a_this), (3, .ref a_p3), (4, .ref a_p4), (5, .int b26_l5), (6, .int (r_42 - (1 : Int32))), (7, .long b67_l7), (9, .int b67_l9), (10, .int b67_l10)]) hx hb dX7_lay_92 hl (by decide) rfl (fun ls hl => ?_)
              refine lv_lload hx hb dX7_lay_94 (lv_at hl 6 rfl) ?_
              refine lv_lload hx hb dX7_lay_96 (lv_at hl 0 rfl) ?_
              refine rk_lcge (tgt := 105) hx hb dX7_lay_98 dX7_lay_99 (by decide) (fun hc3 => ?_) (fun hc3 => ?_)
              · have h := rk_if hc3 h
                refine lv_lload hx hb dX7_lay_105 (lv_at hl 6 rfl) ?_
                refine lv_lload hx hb dX7_lay_107 (lv_at hl 0 rfl) ?_
                refine lv_lsub hx hb dX7_lay_109 ?_
                refine lv_lstore (lv' := [(7, .long (b67_l7 - (r_78 * r_88))), (11, .long (r_78 * r_88)), (0, .ref a_this), (3, .ref a_p3), (4, .ref a_p4), (5, .int b26_l5), (6, .int (r_42 - (1 : Int32))), (9, .int b67_l9), (10, .int b67_l10)]) hx hb dX7_lay_110 hl (by decide) rfl (fun ls hl => ?_)
                refine lv_iload hx hb dX7_lay_112 (lv_at hl 8 rfl) ?_
                refine lv_iconst (v := 1) hx hb dX7_lay_114 (by decide) ?_
                refine lv_iadd hx hb dX7_lay_115 ?_
                refine lv_istore (lv' := [(9, .int (b67_l10 + (1 : Int32))), (7, .long (b67_l7 - (r_78 * r_88))), (11, .long (r_78 * r_88)), (0, .ref a_this), (3, .ref a_p3), (4, .ref a_p4), (5, .int b26_l5), (6, .int (r_42 - (1 : Int32))), (10, .int b67_l10)]) hx hb dX7_lay_116 hl (by decide) rfl (fun ls hl => ?_)
                refine lv_iinc (v := (b67_l10 + 1)) (lv' := [(10, .int (b67_l10 + 1)), (9, .int (b67_l10 + (1 : Int32))), (7, .long (b67_l7 - (r_78 * r_88))), (11, .long (r_78 * r_88)), (0, .ref a_this), (3, .ref a_p3), (4, .ref a_p4), (5, .int b26_l5), (6, .int (r_42 - (1 : Int32)))]) hx hb dX7_lay_118 hl (k := 8) rfl rfl (by decide) rfl (fun ls hl => ?_)
                refine lv_goto (tgt := 67) hx hb dX7_lay_121 (by decide) ?_
                exact ih67 (b67_l7 - (r_78 * r_88)) (b67_l10 + (1 : Int32)) (b67_l10 + 1) h _ _ hP hD hS _ (lv_sub hl [4, 5, 6, 7, 8, 2, 1, 0] rfl)
              · have h := rk_nif hc3 h
                refine lv_goto (tgt := 124) hx hb dX7_lay_102 (by decide) ?_
                exact B124  h _ _ hP hD hS _ (lv_sub hl [1, 2, 3, 4, 6, 7] rfl)
        exact L67 FU r_56 (0 : Int32) (0 : Int32) h _ _ hP hD hS _ (lv_sub hl [4, 5, 6, 7, 3, 2, 1, 0] rfl)
  exact L26 FU (0 : Int32) c_p3 r_20 r_10 h _ _ hP hD hS _ (lv_sub hl [1, 3, 4, 0] rfl)
set_option maxHeartbeats 4000000 in
set_option maxRecDepth 100000 in
theorem mtX7_turn (l : Launch) (D : va_G) (cI cJ cO : ClassId) (PL : va_W) (sz : Nat) (a_p2 : Nat) (c_p2 : Nat → Int32) (a_this : Nat) (f_this_number : Int32) (f_this_width : Int32) (f_this_size : Int64) (a_p1 : Nat) (c_p1 : Nat → Int32) (a_p3 : Nat) (a_p3_binomials : Nat) (a_p3_partitionCounts : Nat) (a_p3_treeCounts : Nat) (a_p3_sizes : Nat) (a_p3_starts : Nat) (a_p3_ranks : Nat) (a_p3_letters : Nat) (c_p3_sizes : Nat → Int32) (c_p3_starts : Nat → Int32) (r0 : (Nat → Int32) × (Nat → Int32) × (Nat → Int32)) (h : fX7_turn c_p2 f_this_width c_p1 c_p3_sizes c_p3_starts = some r0) : Met l yX7_turn (rk_w yX7_turn cX7_turn 8 none) rmX7_turn (va_Pc [.ref a_this, .ref a_p1, .ref a_p2, .ref a_p3] (rk_B D (rk_TY cI cJ cO) [(a_p2, .inl (cI, 60, .inl c_p2)), (a_p3_sizes, .inl (cI, 60, .inl c_p3_sizes)), (a_p3_starts, .inl (cI, 60, .inl c_p3_starts))] [(a_this, .inr (6, [.int f_this_number, .int f_this_width, .long f_this_size])), (a_p1, .inl (cI, 60, .inl c_p1)), (a_p3, .inr (2, [.ref a_p3_binomials, .ref a_p3_partitionCounts, .ref a_p3_treeCounts, .ref a_p3_sizes, .ref a_p3_starts, .ref a_p3_ranks, .ref a_p3_letters]))] PL sz)) (rk_Qv D [(a_p2, .inl (cI, 60, .inl r0.1)), (a_p3_sizes, .inl (cI, 60, .inl r0.2.1)), (a_p3_starts, .inl (cI, 60, .inl r0.2.2))] [(a_p2, .inl (cI, 60, .inl c_p2)), (a_p3_sizes, .inl (cI, 60, .inl c_p3_sizes)), (a_p3_starts, .inl (cI, 60, .inl c_p3_starts))] sz) 0 0 (va_A [(a_p2, .inl (cI, 60, .inl c_p2)), (a_p3_sizes, .inl (cI, 60, .inl c_p3_sizes)), (a_p3_starts, .inl (cI, 60, .inl c_p3_starts))] sz) := by
  refine rk_metv h (fun x => [(a_p2, .inl (cI, 60, .inl x.1)), (a_p3_sizes, .inl (cI, 60, .inl x.2.1)), (a_p3_starts, .inl (cI, 60, .inl x.2.2))]) (by decide) (Nat.le_of_ble_eq_true rfl) ?_
  intro p e s m args below meth c A ls Q hret hname hF hP hD hA hV hR0 hn hPL hnl hl h hS
  have hx := hF.1
  have hb := hF.2.1
  have hml := hF.2.2.1
  have hown : s.vm.findClass RX7 = some m.cls := hF.2.2.2.1
  have htc := hF.2.2.2.2
  have hP : va_P D vwCl [(a_p2, .inl (cI, 60, .inl c_p2)), (a_p3_sizes, .inl (cI, 60, .inl c_p3_sizes)), (a_p3_starts, .inl (cI, 60, .inl c_p3_starts))] s.heap := hP
  have hD : va_D A [(a_p2, .inl (cI, 60, .inl c_p2)), (a_p3_sizes, .inl (cI, 60, .inl c_p3_sizes)), (a_p3_starts, .inl (cI, 60, .inl c_p3_starts))] := hD
  have hR0 : va_P D vwCl [(a_this, .inr (6, [.int f_this_number, .int f_this_width, .long f_this_size])), (a_p1, .inl (cI, 60, .inl c_p1)), (a_p3, .inr (2, [.ref a_p3_binomials, .ref a_p3_partitionCounts, .ref a_p3_treeCounts, .ref a_p3_sizes, .ref a_p3_starts, .ref a_p3_ranks, .ref a_p3_letters]))] s.heap := hR0
  have hR := hR0
  have hl : lv_has ls 8 [(0, .ref a_this), (1, .ref a_p1), (2, .ref a_p2), (3, .ref a_p3)] := hl
  unfold fX7_turn at h
  refine lv_aload_n hx hb dX7_turn_0 rfl (lv_at hl 1 rfl) ?_
  refine lv_aload_n hx hb dX7_turn_1 rfl (lv_at hl 0 rfl) ?_
  refine va_get (D := D) (ci := 6) (v := .int f_this_width) (C := RX7) (T := TX7) (N := 3) hx hb htc inX7 hown hV.1 hR 0 rfl rfl 1 (by decide) (htc _ w_1_123) (fun _ h9 => u_same (htc _ w_1_124) _ h9) rfl dX7_turn_2 ?_
  refine lv_aload_n hx hb dX7_turn_5 rfl (lv_at hl 3 rfl) ?_
  refine va_getN (D := D) (ci := 2) (v := .ref a_p3_sizes) (C := RX2) (T := TX2) (N := 7) hx hb htc inX2 hown hV.1 hR 2 rfl rfl 3 (by decide) (va_Nw.use rfl (hV.2.1 _ nw_1_60)) (fun _ h9 => h9) rfl dX7_turn_6 ?_
  obtain ⟨r_9, hc_9, h⟩ := rk_bd h
  refine rk_i (wr := [(a_p2, .inl (cI, 60, .inl c_p2)), (a_p3_starts, .inl (cI, 60, .inl c_p3_starts))]) (va_runS (As := [.ref a_p1, .int f_this_width, .ref a_p3_sizes]) (rest := []) hF (mtX7_measure l D cI cJ cO PL _ a_p3_sizes c_p3_sizes a_p1 c_p1 f_this_width r_9 hc_9) (va_cwS 3 htc (rk_gVS w_3_3 w_3_4 w_1_10 w_3_5) rfl rfl rfl (by decide +kernel) ⟨(Nat.le_of_ble_eq_true rfl), (Nat.le_of_ble_eq_true rfl)⟩) (rk_preS hP hD hS hR hn hPL hnl hV [1] [(false, 1)] rfl (by decide) rfl (by decide)) rfl rfl hl.1 rfl (lv_room (Nat.le_of_ble_eq_true rfl)) dX7_turn_9 ⟨(Nat.le_of_ble_eq_true rfl), (Nat.le_of_ble_eq_true rfl)⟩) hP hD hS hA hR0 hn [1] [0, 2] rfl rfl (by decide) (by decide) (fun H locs hP hD hS hR => ?_)
  have hP : va_P D vwCl [(a_p2, .inl (cI, 60, .inl c_p2)), (a_p3_starts, .inl (cI, 60, .inl c_p3_starts)), (a_p3_sizes, .inl (cI, 60, .inl r_9.2))] H := hP
  have hD : va_D A [(a_p2, .inl (cI, 60, .inl c_p2)), (a_p3_starts, .inl (cI, 60, .inl c_p3_starts)), (a_p3_sizes, .inl (cI, 60, .inl r_9.2))] := hD
  refine lv_pop hx hb dX7_turn_12 rfl ?_
  refine lv_aload_n hx hb dX7_turn_13 rfl (lv_at hl 3 rfl) ?_
  refine va_getN (D := D) (ci := 2) (v := .ref a_p3_starts) (C := RX2) (T := TX2) (N := 7) hx hb htc inX2 hown hV.1 hR 2 rfl rfl 4 (by decide) (va_Nw.use rfl (hV.2.1 _ nw_1_62)) (fun _ h9 => h9) rfl dX7_turn_14 ?_
  refine lv_iconst (v := 0) hx hb dX7_turn_17 (by decide) ?_
  refine lv_iconst (v := 0) hx hb dX7_turn_18 (by decide) ?_
  obtain ⟨r_19, hc_19, h⟩ := rk_bd h
  refine rk_v (wr := [(a_p2, .inl (cI, 60, .inl c_p2)), (a_p3_sizes, .inl (cI, 60, .inl r_9.2))]) (va_runSN (As := [.ref a_p3_starts, .int (0 : Int32), .int (0 : Int32)]) (rest := []) hF (mtX9_set l D cI cJ cO PL _ a_p3_starts 60 c_p3_starts (0 : Int32) (0 : Int32) r_19 hc_19) ⟨va_cnB 3 htc (rk_gw w_1_46) rfl rfl rfl (hV.2.1 _ nw_2_16) (htc _ w_1_1) (by decide +kernel) ⟨(Nat.le_of_ble_eq_true rfl), (Nat.le_of_ble_eq_true rfl)⟩, htc _ w_1_45, trivial⟩ (rk_preS hP hD hS hR hn hPL hnl hV [1] [] rfl (by decide) rfl (by decide)) rfl rfl hl.1 rfl (lv_room (Nat.le_of_ble_eq_true rfl)) dX7_turn_19 ⟨(Nat.le_of_ble_eq_true rfl), (Nat.le_of_ble_eq_true rfl)⟩) hP hD hS hA hR0 hn [1] [0, 2] rfl rfl (by decide) (by decide) (fun H locs hP hD hS hR => ?_)
  have hP : va_P D vwCl [(a_p2, .inl (cI, 60, .inl c_p2)), (a_p3_sizes, .inl (cI, 60, .inl r_9.2)), (a_p3_starts, .inl (cI, 60, .inl r_19))] H := hP
  have hD : va_D A [(a_p2, .inl (cI, 60, .inl c_p2)), (a_p3_sizes, .inl (cI, 60, .inl r_9.2)), (a_p3_starts, .inl (cI, 60, .inl r_19))] := hD
  refine lv_iconst (v := 0) hx hb dX7_turn_22 (by decide) ?_
  refine lv_istore (lv' := [(4, .int (0 : Int32)), (0, .ref a_this), (1, .ref a_p1), (2, .ref a_p2), (3, .ref a_p3)]) hx hb dX7_turn_23 hl (by decide) rfl (fun ls hl => ?_)
  have L25 : ∀ (n25 : Nat) (b25_l4 : Int32) (b25_c_p2 : Nat → Int32) (b25_c_p3_starts : Nat → Int32), rk_it3 (fX7_turn_L25 f_this_width c_p1 r_9) n25 b25_l4 b25_c_p2 b25_c_p3_starts = some r0 → ∀ (H : Heap) (locs : List Loc), va_P D vwCl [(a_p2, .inl (cI, 60, .inl b25_c_p2)), (a_p3_sizes, .inl (cI, 60, .inl r_9.2)), (a_p3_starts, .inl (cI, 60, .inl b25_c_p3_starts))] H → va_D A [(a_p2, .inl (cI, 60, .inl b25_c_p2)), (a_p3_sizes, .inl (cI, 60, .inl r_9.2)), (a_p3_starts, .inl (cI, 60, .inl b25_c_p3_starts))] → va_S A s.heap H locs → ∀ (ls : Array Slot), lv_has ls 8 [(0, .ref a_this), (1, .ref a_p1), (2, .ref a_p2), (3, .ref a_p3), (4, .int b25_l4)] → W p l e rmX7_turn s m args below meth c H locs 0 0 Q (F0 m 25 ls []) := by
    intro n25
    induction n25 with
    | zero => intro b25_l4 b25_c_p2 b25_c_p3_starts h; exact rk_no h
    | succ n25 ih25 =>
      intro b25_l4 b25_c_p2 b25_c_p3_starts h H locs hP hD hS ls hl
      have h : fX7_turn_L25 f_this_width c_p1 r_9 (rk_it3 (fX7_turn_L25 f_this_width c_p1 r_9) n25) b25_l4 b25_c_p2 b25_c_p3_starts = some r0 := h
      unfold fX7_turn_L25 at h
      have hR := rk_keep hR0 hn hS
      refine lv_iload hx hb dX7_turn_25 (lv_at hl 4 rfl) ?_
      refine lv_aload_n hx hb dX7_turn_27 rfl (lv_at hl 0 rfl) ?_
      refine va_get (D := D) (ci := 6) (v := .int f_this_width) (C := RX7) (T := TX7) (N := 3) hx hb htc inX7 hown hV.1 hR 0 rfl rfl 1 (by decide) (htc _ w_1_123) (fun _ h9 => u_same (htc _ w_1_124) _ h9) rfl dX7_turn_28 ?_
      refine lv_icmp_ge (tgt := 129) hx hb dX7_turn_31 (by decide) (fun hc1 => ?_) (fun hc1 => ?_)
      · have h := rk_if hc1 h
        exact hret (b25_c_p2, r_9.2, b25_c_p3_starts) _ _ _ _ h dX7_turn_129 hP hD hS
      · have h := rk_nif hc1 h
        refine lv_aload_n hx hb dX7_turn_34 rfl (lv_at hl 1 rfl) ?_
        refine lv_iload hx hb dX7_turn_35 (lv_at hl 4 rfl) ?_
        obtain ⟨r_37, hc_37, h⟩ := rk_bd h
        refine rk_i (wr := [(a_p2, .inl (cI, 60, .inl b25_c_p2)), (a_p3_sizes, .inl (cI, 60, .inl r_9.2)), (a_p3_starts, .inl (cI, 60, .inl b25_c_p3_starts))]) (va_runSN (As := [.ref a_p1, .int b25_l4]) (rest := []) hF (mtX9_at l D cI cJ cO PL _ a_p1 60 c_p1 b25_l4 r_37 hc_37) ⟨va_cnB 2 htc (rk_gw w_1_52) rfl rfl rfl (hV.2.1 _ nw_2_18) (htc _ w_1_1) (by decide +kernel) ⟨(Nat.le_of_ble_eq_true rfl), (Nat.le_of_ble_eq_true rfl)⟩, htc _ w_1_51, trivial⟩ (rk_preS hP hD hS hR hn hPL hnl hV [] [(false, 1)] rfl (by decide) rfl (by decide)) rfl rfl hl.1 rfl (lv_room (Nat.le_of_ble_eq_true rfl)) dX7_turn_37 ⟨(Nat.le_of_ble_eq_true rfl), (Nat.le_of_ble_eq_true rfl)⟩) hP hD hS hA hR0 hn [] [0, 1, 2] rfl rfl (by decide) (by decide) (fun H locs hP hD hS hR => ?_)
        have hP : va_P D vwCl [(a_p2, .inl (cI, 60, .inl b25_c_p2)), (a_p3_sizes, .inl (cI, 60, .inl r_9.2)), (a_p3_starts, .inl (cI, 60, .inl b25_c_p3_starts))] H := hP
        have hD : va_D A [(a_p2, .inl (cI, 60, .inl b25_c_p2)), (a_p3_sizes, .inl (cI, 60, .inl r_9.2)), (a_p3_starts, .inl (cI, 60, .inl b25_c_p3_starts))] := hD
        refine lv_istore (lv' := [(5, .int r_37), (0, .ref a_this), (1, .ref a_p1), (2, .ref a_p2), (3, .ref a_p3), (4, .int b25_l4)]) hx hb dX7_turn_40 hl (by decide) rfl (fun ls hl => ?_)
        refine lv_aload_n hx hb dX7_turn_42 rfl (lv_at hl 4 rfl) ?_
        refine va_getN (D := D) (ci := 2) (v := .ref a_p3_sizes) (C := RX2) (T := TX2) (N := 7) hx hb htc inX2 hown hV.1 hR 2 rfl rfl 3 (by decide) (va_Nw.use rfl (hV.2.1 _ nw_1_60)) (fun _ h9 => h9) rfl dX7_turn_43 ?_
        refine lv_iload hx hb dX7_turn_46 (lv_at hl 5 rfl) ?_
        obtain ⟨r_48, hc_48, h⟩ := rk_bd h
        refine rk_i (wr := [(a_p2, .inl (cI, 60, .inl b25_c_p2)), (a_p3_sizes, .inl (cI, 60, .inl r_9.2)), (a_p3_starts, .inl (cI, 60, .inl b25_c_p3_starts))]) (va_runSN (As := [.ref a_p3_sizes, .int b25_l4]) (rest := []) hF (mtX9_at l D cI cJ cO PL _ a_p3_sizes 60 r_9.2 b25_l4 r_48 hc_48) ⟨va_cnB 2 htc (rk_gw w_1_52) rfl rfl rfl (hV.2.1 _ nw_2_18) (htc _ w_1_1) (by decide +kernel) ⟨(Nat.le_of_ble_eq_true rfl), (Nat.le_of_ble_eq_true rfl)⟩, htc _ w_1_51, trivial⟩ (rk_preS hP hD hS hR hn hPL hnl hV [] [(true, 1)] rfl (by decide) rfl (by decide)) rfl rfl hl.1 rfl (lv_room (Nat.le_of_ble_eq_true rfl)) dX7_turn_48 ⟨(Nat.le_of_ble_eq_true rfl), (Nat.le_of_ble_eq_true rfl)⟩) hP hD hS hA hR0 hn [] [0, 1, 2] rfl rfl (by decide) (by decide) (fun H locs hP hD hS hR => ?_)
        have hP : va_P D vwCl [(a_p2, .inl (cI, 60, .inl b25_c_p2)), (a_p3_sizes, .inl (cI, 60, .inl r_9.2)), (a_p3_starts, .inl (cI, 60, .inl b25_c_p3_starts))] H := hP
        have hD : va_D A [(a_p2, .inl (cI, 60, .inl b25_c_p2)), (a_p3_sizes, .inl (cI, 60, .inl r_9.2)), (a_p3_starts, .inl (cI, 60, .inl b25_c_p3_starts))] := hD
        refine lv_iconst (v := 1) hx hb dX7_turn_51 (by decide) ?_
        refine lv_isub hx hb dX7_turn_52 ?_
        refine lv_iload hx hb dX7_turn_53 (lv_at hl 0 rfl) ?_
        refine lv_isub hx hb dX7_turn_55 ?_
        refine lv_istore (lv' := [(6, .int ((r_48 - (1 : Int32)) - r_37)), (5, .int r_37), (0, .ref a_this), (1, .ref a_p1), (2, .ref a_p2), (3, .ref a_p3), (4, .int b25_l4)]) hx hb dX7_turn_56 hl (by decide) rfl (fun ls hl => ?_)
        refine lv_aload_n hx hb dX7_turn_58 rfl (lv_at hl 5 rfl) ?_
        refine va_getN (D := D) (ci := 2) (v := .ref a_p3_starts) (C := RX2) (T := TX2) (N := 7) hx hb htc inX2 hown hV.1 hR 2 rfl rfl 4 (by decide) (va_Nw.use rfl (hV.2.1 _ nw_1_62)) (fun _ h9 => h9) rfl dX7_turn_59 ?_
        refine lv_iload hx hb dX7_turn_62 (lv_at hl 6 rfl) ?_
        obtain ⟨r_64, hc_64, h⟩ := rk_bd h
        refine rk_i (wr := [(a_p2, .inl (cI, 60, .inl b25_c_p2)), (a_p3_sizes, .inl (cI, 60, .inl r_9.2)), (a_p3_starts, .inl (cI, 60, .inl b25_c_p3_starts))]) (va_runSN (As := [.ref a_p3_starts, .int b25_l4]) (rest := []) hF (mtX9_at l D cI cJ cO PL _ a_p3_starts 60 b25_c_p3_starts b25_l4 r_64 hc_64) ⟨va_cnB 2 htc (rk_gw w_1_52) rfl rfl rfl (hV.2.1 _ nw_2_18) (htc _ w_1_1) (by decide +kernel) ⟨(Nat.le_of_ble_eq_true rfl), (Nat.le_of_ble_eq_true rfl)⟩, htc _ w_1_51, trivial⟩ (rk_preS hP hD hS hR hn hPL hnl hV [] [(true, 2)] rfl (by decide) rfl (by decide)) rfl rfl hl.1 rfl (lv_room (Nat.le_of_ble_eq_true rfl)) dX7_turn_64 ⟨(Nat.le_of_ble_eq_true rfl), (Nat.le_of_ble_eq_true rfl)⟩) hP hD hS hA hR0 hn [] [0, 1, 2] rfl rfl (by decide) (by decide) (fun H locs hP hD hS hR => ?_)
        have hP : va_P D vwCl [(a_p2, .inl (cI, 60, .inl b25_c_p2)), (a_p3_sizes, .inl (cI, 60, .inl r_9.2)), (a_p3_starts, .inl (cI, 60, .inl b25_c_p3_starts))] H := hP
        have hD : va_D A [(a_p2, .inl (cI, 60, .inl b25_c_p2)), (a_p3_sizes, .inl (cI, 60, .inl r_9.2)), (a_p3_starts, .inl (cI, 60, .inl b25_c_p3_starts))] := hD
        refine lv_istore (lv' := [(7, .int r_64), (6, .int ((r_48 - (1 : Int32)) - r_37)), (5, .int r_37), (0, .ref a_this), (1, .ref a_p1), (2, .ref a_p2), (3, .ref a_p3), (4, .int b25_l4)]) hx hb dX7_turn_67 hl (by decide) rfl (fun ls hl => ?_)
        refine lv_aload_n hx hb dX7_turn_69 rfl (lv_at hl 5 rfl) ?_
        refine lv_iload hx hb dX7_turn_70 (lv_at hl 0 rfl) ?_
        refine lv_iload hx hb dX7_turn_72 (lv_at hl 1 rfl) ?_
        obtain ⟨r_74, hc_74, h⟩ := rk_bd h
        refine rk_v (wr := [(a_p3_sizes, .inl (cI, 60, .inl r_9.2)), (a_p3_starts, .inl (cI, 60, .inl b25_c_p3_starts))]) (va_runSN (As := [.ref a_p2, .int r_64, .int ((r_48 - (1 : Int32)) - r_37)]) (rest := []) hF (mtX9_set l D cI cJ cO PL _ a_p2 60 b25_c_p2 r_64 ((r_48 - (1 : Int32)) - r_37) r_74 hc_74) ⟨va_cnB 3 htc (rk_gw w_1_46) rfl rfl rfl (hV.2.1 _ nw_2_16) (htc _ w_1_1) (by decide +kernel) ⟨(Nat.le_of_ble_eq_true rfl), (Nat.le_of_ble_eq_true rfl)⟩, htc _ w_1_45, trivial⟩ (rk_preS hP hD hS hR hn hPL hnl hV [0] [] rfl (by decide) rfl (by decide)) rfl rfl hl.1 rfl (lv_room (Nat.le_of_ble_eq_true rfl)) dX7_turn_74 ⟨(Nat.le_of_ble_eq_true rfl), (Nat.le_of_ble_eq_true rfl)⟩) hP hD hS hA hR0 hn [0] [1, 2] rfl rfl (by decide) (by decide) (fun H locs hP hD hS hR => ?_)
        have hP : va_P D vwCl [(a_p3_sizes, .inl (cI, 60, .inl r_9.2)), (a_p3_starts, .inl (cI, 60, .inl b25_c_p3_starts)), (a_p2, .inl (cI, 60, .inl r_74))] H := hP
        have hD : va_D A [(a_p3_sizes, .inl (cI, 60, .inl r_9.2)), (a_p3_starts, .inl (cI, 60, .inl b25_c_p3_starts)), (a_p2, .inl (cI, 60, .inl r_74))] := hD
        refine lv_iload hx hb dX7_turn_77 (lv_at hl 2 rfl) ?_
        have B100 : ∀ (b100_c_p3_starts : Nat → Int32), fX7_turn_B100 b25_l4 (rk_it3 (fX7_turn_L25 f_this_width c_p1 r_9) n25) r_37 r_48 r_64 r_74 b100_c_p3_starts = some r0 → ∀ (H : Heap) (locs : List Loc), va_P D vwCl [(a_p3_sizes, .inl (cI, 60, .inl r_9.2)), (a_p3_starts, .inl (cI, 60, .inl b100_c_p3_starts)), (a_p2, .inl (cI, 60, .inl r_74))] H → va_D A [(a_p3_sizes, .inl (cI, 60, .inl r_9.2)), (a_p3_starts, .inl (cI, 60, .inl b100_c_p3_starts)), (a_p2, .inl (cI, 60, .inl r_74))] → va_S A s.heap H locs → ∀ (ls : Array Slot), lv_has ls 8 [(0, .ref a_this), (1, .ref a_p1), (2, .ref a_p2), (3, .ref a_p3), (4, .int b25_l4), (5, .int r_37), (6, .int ((r_48 - (1 : Int32)) - r_37)), (7, .int r_64)] → W p l e rmX7_turn s m args below meth c H locs 0 0 Q (F0 m 100 ls []) := by
          intro b100_c_p3_starts h H locs hP hD hS ls hl
          unfold fX7_turn_B100 at h
          have hR := rk_keep hR0 hn hS
          refine lv_iload hx hb dX7_turn_100 (lv_at hl 6 rfl) ?_
          have B123 : ∀ (b123_c_p3_starts : Nat → Int32), fX7_turn_B123 b25_l4 (rk_it3 (fX7_turn_L25 f_this_width c_p1 r_9) n25) r_74 b123_c_p3_starts = some r0 → ∀ (H : Heap) (locs : List Loc), va_P D vwCl [(a_p3_sizes, .inl (cI, 60, .inl r_9.2)), (a_p3_starts, .inl (cI, 60, .inl b123_c_p3_starts)), (a_p2, .inl (cI, 60, .inl r_74))] H → va_D A [(a_p3_sizes, .inl (cI, 60, .inl r_9.2)), (a_p3_starts, .inl (cI, 60, .inl b123_c_p3_starts)), (a_p2, .inl (cI, 60, .inl r_74))] → va_S A s.heap H locs → ∀ (ls : Array Slot), lv_has ls 8 [(0, .ref a_this), (1, .ref a_p1), (2, .ref a_p2), (3, .ref a_p3), (4, .int b25_l4)] → W p l e rmX7_turn s m args below meth c H locs 0 0 Q (F0 m 123 ls []) := by
            intro b123_c_p3_starts h H locs hP hD hS ls hl
            unfold fX7_turn_B123 at h
            have hR := rk_keep hR0 hn hS
            refine lv_iinc (v := (b25_l4 + 1)) (lv' := [(4, .int (b25_l4 + 1)), (0, .ref a_this), (1, .ref a_p1), (2, .ref a_p2), (3, .ref a_p3)]) hx hb dX7_turn_123 hl (k := 4) rfl rfl (by decide) rfl (fun ls hl => ?_)
            refine lv_goto (tgt := 25) hx hb dX7_turn_126 (by decide) ?_
            exact ih25 (b25_l4 + 1) r_74 b123_c_p3_starts h _ _ (hP.sub [2, 0, 1] rfl) (hD.sub [2, 0, 1] (by decide) rfl) hS _ (lv_sub hl [1, 2, 3, 4, 0] rfl)
          refine lv_if_le (tgt := 123) hx hb dX7_turn_102 (by decide) (fun hc2 => ?_) (fun hc2 => ?_)
          · have h := rk_if hc2 h
            exact B123 b100_c_p3_starts h _ _ hP hD hS _ (lv_sub hl [0, 1, 2, 3, 4] rfl)
          · have h := rk_nif hc2 h
            refine lv_aload_n hx hb dX7_turn_105 rfl (lv_at hl 3 rfl) ?_
            refine va_getN (D := D) (ci := 2) (v := .ref a_p3_starts) (C := RX2) (T := TX2) (N := 7) hx hb htc inX2 hown hV.1 hR 2 rfl rfl 4 (by decide) (va_Nw.use rfl (hV.2.1 _ nw_1_62)) (fun _ h9 => h9) rfl dX7_turn_106 ?_
            refine lv_iload hx hb dX7_turn_109 (lv_at hl 4 rfl) ?_
            refine lv_iconst (v := 1) hx hb dX7_turn_111 (by decide) ?_
            refine lv_iadd hx hb dX7_turn_112 ?_
            refine lv_iload hx hb dX7_turn_113 (lv_at hl 5 rfl) ?_
            refine lv_iadd hx hb dX7_turn_115 ?_
            refine lv_iload hx hb dX7_turn_116 (lv_at hl 7 rfl) ?_
            refine lv_iconst (v := 1) hx hb dX7_turn_118 (by decide) ?_
            refine lv_iadd hx hb dX7_turn_119 ?_
            obtain ⟨r_120, hc_120, h⟩ := rk_bd h
            refine rk_v (wr := [(a_p3_sizes, .inl (cI, 60, .inl r_9.2)), (a_p2, .inl (cI, 60, .inl r_74))]) (va_runSN (As := [.ref a_p3_starts, .int ((b25_l4 + (1 : Int32)) + r_37), .int (r_64 + (1 : Int32))]) (rest := []) hF (mtX9_set l D cI cJ cO PL _ a_p3_starts 60 b100_c_p3_starts ((b25_l4 + (1 : Int32)) + r_37) (r_64 + (1 : Int32)) r_120 hc_120) ⟨va_cnB 3 htc (rk_gw w_1_46) rfl rfl rfl (hV.2.1 _ nw_2_16) (htc _ w_1_1) (by decide +kernel) ⟨(Nat.le_of_ble_eq_true rfl), (Nat.le_of_ble_eq_true rfl)⟩, htc _ w_1_45, trivial⟩ (rk_preS hP hD hS hR hn hPL hnl hV [1] [] rfl (by decide) rfl (by decide)) rfl rfl hl.1 rfl (lv_room (Nat.le_of_ble_eq_true rfl)) dX7_turn_120 ⟨(Nat.le_of_ble_eq_true rfl), (Nat.le_of_ble_eq_true rfl)⟩) hP hD hS hA hR0 hn [1] [0, 2] rfl rfl (by decide) (by decide) (fun H locs hP hD hS hR => ?_)
            have hP : va_P D vwCl [(a_p3_sizes, .inl (cI, 60, .inl r_9.2)), (a_p2, .inl (cI, 60, .inl r_74)), (a_p3_starts, .inl (cI, 60, .inl r_120))] H := hP
            have hD : va_D A [(a_p3_sizes, .inl (cI, 60, .inl r_9.2)), (a_p2, .inl (cI, 60, .inl r_74)), (a_p3_starts, .inl (cI, 60, .inl r_120))] := hD
            exact B123 r_120 h _ _ (hP.sub [0, 2, 1] rfl) (hD.sub [0, 2, 1] (by decide) rfl) hS _ (lv_sub hl [0, 1, 2, 3, 4] rfl)
        refine lv_if_le (tgt := 100) hx hb dX7_turn_79 (by decide) (fun hc3 => ?_) (fun hc3 => ?_)
        · have h := rk_if hc3 h
          exact B100 b25_c_p3_starts h _ _ hP hD hS _ (lv_sub hl [3, 4, 5, 6, 7, 2, 1, 0] rfl)
        · have h := rk_nif hc3 h
          refine lv_aload_n hx hb dX7_turn_82 rfl (lv_at hl 6 rfl) ?_
          refine va_getN (D := D) (ci := 2) (v := .ref a_p3_starts) (C := RX2) (T := TX2) (N := 7) hx hb htc inX2 hown hV.1 hR 2 rfl rfl 4 (by decide) (va_Nw.use rfl (hV.2.1 _ nw_1_62)) (fun _ h9 => h9) rfl dX7_turn_83 ?_
          refine lv_iload hx hb dX7_turn_86 (lv_at hl 7 rfl) ?_
          refine lv_iconst (v := 1) hx hb dX7_turn_88 (by decide) ?_
          refine lv_iadd hx hb dX7_turn_89 ?_
          refine lv_iload hx hb dX7_turn_90 (lv_at hl 0 rfl) ?_
          refine lv_iconst (v := 1) hx hb dX7_turn_92 (by decide) ?_
          refine lv_iadd hx hb dX7_turn_93 ?_
          refine lv_iload hx hb dX7_turn_94 (lv_at hl 1 rfl) ?_
          refine lv_iadd hx hb dX7_turn_96 ?_
          obtain ⟨r_97, hc_97, h⟩ := rk_bd h
          refine rk_v (wr := [(a_p3_sizes, .inl (cI, 60, .inl r_9.2)), (a_p2, .inl (cI, 60, .inl r_74))]) (va_runSN (As := [.ref a_p3_starts, .int (b25_l4 + (1 : Int32)), .int ((r_64 + (1 : Int32)) + ((r_48 - (1 : Int32)) - r_37))]) (rest := []) hF (mtX9_set l D cI cJ cO PL _ a_p3_starts 60 b25_c_p3_starts (b25_l4 + (1 : Int32)) ((r_64 + (1 : Int32)) + ((r_48 - (1 : Int32)) - r_37)) r_97 hc_97) ⟨va_cnB 3 htc (rk_gw w_1_46) rfl rfl rfl (hV.2.1 _ nw_2_16) (htc _ w_1_1) (by decide +kernel) ⟨(Nat.le_of_ble_eq_true rfl), (Nat.le_of_ble_eq_true rfl)⟩, htc _ w_1_45, trivial⟩ (rk_preS hP hD hS hR hn hPL hnl hV [1] [] rfl (by decide) rfl (by decide)) rfl rfl hl.1 rfl (lv_room (Nat.le_of_ble_eq_true rfl)) dX7_turn_97 ⟨(Nat.le_of_ble_eq_true rfl), (Nat.le_of_ble_eq_true rfl)⟩) hP hD hS hA hR0 hn [1] [0, 2] rfl rfl (by decide) (by decide) (fun H locs hP hD hS hR => ?_)
          have hP : va_P D vwCl [(a_p3_sizes, .inl (cI, 60, .inl r_9.2)), (a_p2, .inl (cI, 60, .inl r_74)), (a_p3_starts, .inl (cI, 60, .inl r_97))] H := hP
          have hD : va_D A [(a_p3_sizes, .inl (cI, 60, .inl r_9.2)), (a_p2, .inl (cI, 60, .inl r_74)), (a_p3_starts, .inl (cI, 60, .inl r_97))] := hD
          exact B100 r_97 h _ _ (hP.sub [0, 2, 1] rfl) (hD.sub [0, 2, 1] (by decide) rfl) hS _ (lv_sub hl [3, 4, 5, 6, 7, 2, 1, 0] rfl)
  exact L25 FU (0 : Int32) c_p2 r_19 h _ _ hP hD hS _ (lv_sub hl [1, 2, 3, 4, 0] rfl)
