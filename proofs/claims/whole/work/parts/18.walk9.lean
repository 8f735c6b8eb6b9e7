set_option maxHeartbeats 4000000 in
set_option maxRecDepth 100000 in
theorem mtX10_isPartition (l : Launch) (D : va_G) (cI cJ cO : ClassId) (PL : va_W) (sz : Nat) (a_this : Nat) (a_this_chosen : Nat) (a_this_factorial : Nat) (a_this_catalan : Nat) (a_this_parted : Nat) (a_this_closed : Nat) (f_this_now : Int32) (a_this_of : Nat) (a_this_buffer : Nat) (a_this_made : Nat) (a_this_stackOne : Nat) (a_this_stackOther : Nat) (a_this_stackLong : Nat) (a_this_left : Nat) (f_this_entryMany : Int32) (a_this_entryFamily : Nat) (a_this_entryOf : Nat) (a_this_entryRank : Nat) (c_this_buffer : Nat → Int32) (c_this_of : Nat → Int32) (r0 : Int32) (h : fX10_isPartition c_this_buffer c_this_of = some r0) : Met l yX10_isPartition (rk_w yX10_isPartition cX10_isPartition 4 (some .boolean)) rmX10_isPartition (va_Pc [.ref a_this] (rk_B D (rk_TY cI cJ cO) [] [(a_this, .inr (9, [.ref a_this_chosen, .ref a_this_factorial, .ref a_this_catalan, .ref a_this_parted, .ref a_this_closed, .int f_this_now, .ref a_this_of, .ref a_this_buffer, .ref a_this_made, .ref a_this_stackOne, .ref a_this_stackOther, .ref a_this_stackLong, .ref a_this_left, .int f_this_entryMany, .ref a_this_entryFamily, .ref a_this_entryOf, .ref a_this_entryRank])), (a_this_buffer, .inl (cI, 60, .inl c_this_buffer)), (a_this_of, .inl (cI, 4, .inl c_this_of))] PL sz)) (rk_Qi r0 D [] [] sz) 0 0 (va_A [] sz) := by
  refine rk_metz h (fun x : Int32 => x) (fun x => []) (by decide) (Nat.le_of_ble_eq_true rfl) ?_
  intro p e s m args below meth c A ls Q hret hname hF hP hD hA hV hR0 hn hPL hnl hl h hS
  have hx := hF.1
  have hb := hF.2.1
  have hml := hF.2.2.1
  have hown : s.vm.findClass RX10 = some m.cls := hF.2.2.2.1
  have htc := hF.2.2.2.2
  have hP : va_P D vwCl [] s.heap := hP
  have hD : va_D A [] := hD
  have hR0 : va_P D vwCl [(a_this, .inr (9, [.ref a_this_chosen, .ref a_this_factorial, .ref a_this_catalan, .ref a_this_parted, .ref a_this_closed, .int f_this_now, .ref a_this_of, .ref a_this_buffer, .ref a_this_made, .ref a_this_stackOne, .ref a_this_stackOther, .ref a_this_stackLong, .ref a_this_left, .int f_this_entryMany, .ref a_this_entryFamily, .ref a_this_entryOf, .ref a_this_entryRank])), (a_this_buffer, .inl (cI, 60, .inl c_this_buffer)), (a_this_of, .inl (cI, 4, .inl c_this_of))] s.heap := hR0
  have hR := hR0
  have hl : lv_has ls 4 [(0, .ref a_this)] := hl
  unfold fX10_isPartition at h
  refine lv_aload_n hx hb dX10_isPartition_0 rfl (lv_at hl 0 rfl) ?_
  refine va_get (D := D) (ci := 9) (v := .ref a_this_of) (C := RX10) (T := TX10) (N := 17) hx hb htc inX10 hown hV.1 hR 0 rfl rfl 6 (by decide) (htc _ w_4_4) (fun _ h9 => h9) rfl dX10_isPartition_1 ?_
  refine lv_iconst (v := 1) hx hb dX10_isPartition_4 (by decide) ?_
  refine va_iald hx hb hV.1 hR 2 0 rfl rfl (show vp_in (1 : Int32) 4 from (by decide : ¬ ((1 : Int32) < 0 ∨ 4 ≤ (1 : Int32).toNatClampNeg))) dX10_isPartition_5 ?_
  refine W.eq (g2 := F0 m 6 ls [.int (c_this_of 1)]) rfl ?_
  refine lv_istore_n (lv' := [(1, .int (c_this_of 1)), (0, .ref a_this)]) hx hb dX10_isPartition_6 rfl hl (by decide) rfl (fun ls hl => ?_)
  refine lv_iconst (v := 0) hx hb dX10_isPartition_7 (by decide) ?_
  refine lv_istore_n (lv' := [(2, .int (0 : Int32)), (1, .int (c_this_of 1)), (0, .ref a_this)]) hx hb dX10_isPartition_8 rfl hl (by decide) rfl (fun ls hl => ?_)
  refine lv_iconst (v := 0) hx hb dX10_isPartition_9 (by decide) ?_
  refine lv_istore_n (lv' := [(3, .int (0 : Int32)), (2, .int (0 : Int32)), (1, .int (c_this_of 1)), (0, .ref a_this)]) hx hb dX10_isPartition_10 rfl hl (by decide) rfl (fun ls hl => ?_)
  have L11 : ∀ (n11 : Nat) (b11_l1 : Int32) (b11_l2 : Int32) (b11_l3 : Int32), rk_it3 (fX10_isPartition_L11 c_this_buffer c_this_of) n11 b11_l1 b11_l2 b11_l3 = some r0 → ∀ (H : Heap) (locs : List Loc), va_P D vwCl [] H → va_D A [] → va_S A s.heap H locs → ∀ (ls : Array Slot), lv_has ls 4 [(0, .ref a_this), (1, .int b11_l1), (2, .int b11_l2), (3, .int b11_l3)] → W p l e rmX10_isPartition s m args below meth c H locs 0 0 Q (F0 m 11 ls []) := by
    intro n11
    induction n11 with
    | zero => intro b11_l1 b11_l2 b11_l3 h; exact rk_no h
    | succ n11 ih11 =>
      intro b11_l1 b11_l2 b11_l3 h H locs hP hD hS ls hl
      have h : fX10_isPartition_L11 c_this_buffer c_this_of (rk_it3 (fX10_isPartition_L11 c_this_buffer c_this_of) n11) b11_l1 b11_l2 b11_l3 = some r0 := h
      unfold fX10_isPartition_L11 at h
      have hR := rk_keep hR0 hn hS
      refine lv_iload_n hx hb dX10_isPartition_11 rfl (lv_at hl 3 rfl) ?_
      refine lv_aload_n hx hb dX10_isPartition_12 rfl (lv_at hl 0 rfl) ?_
      refine va_get (D := D) (ci := 9) (v := .ref a_this_of) (C := RX10) (T := TX10) (N := 17) hx hb htc inX10 hown hV.1 hR 0 rfl rfl 6 (by decide) (htc _ w_4_4) (fun _ h9 => h9) rfl dX10_isPartition_13 ?_
      refine lv_iconst (v := 0) hx hb dX10_isPartition_16 (by decide) ?_
      refine va_iald hx hb hV.1 hR 2 0 rfl rfl (show vp_in (0 : Int32) 4 from (by decide : ¬ ((0 : Int32) < 0 ∨ 4 ≤ (0 : Int32).toNatClampNeg))) dX10_isPartition_17 ?_
      refine W.eq (g2 := F0 m 18 ls [.int (c_this_of 0), .int b11_l3]) rfl ?_
      refine lv_icmp_ge (tgt := 56) hx hb dX10_isPartition_18 (by decide) (fun hc1 => ?_) (fun hc1 => ?_)
      · have h := rk_if hc1 h
        refine lv_iload_n hx hb dX10_isPartition_56 rfl (lv_at hl 2 rfl) ?_
        refine lv_aload_n hx hb dX10_isPartition_57 rfl (lv_at hl 0 rfl) ?_
        refine va_get (D := D) (ci := 9) (v := .ref a_this_of) (C := RX10) (T := TX10) (N := 17) hx hb htc inX10 hown hV.1 hR 0 rfl rfl 6 (by decide) (htc _ w_4_4) (fun _ h9 => h9) rfl dX10_isPartition_58 ?_
        refine lv_iconst (v := 0) hx hb dX10_isPartition_61 (by decide) ?_
        refine va_iald hx hb hV.1 hR 2 0 rfl rfl (show vp_in (0 : Int32) 4 from (by decide : ¬ ((0 : Int32) < 0 ∨ 4 ≤ (0 : Int32).toNatClampNeg))) dX10_isPartition_62 ?_
        refine W.eq (g2 := F0 m 63 ls [.int (c_this_of 0), .int b11_l2]) rfl ?_
        refine lv_icmp_ne (tgt := 70) hx hb dX10_isPartition_63 (by decide) (fun hc2 => ?_) (fun hc2 => ?_)
        · have h := rk_if hc2 h
          refine lv_iconst (v := 0) hx hb dX10_isPartition_70 (by decide) ?_
          exact hret (0 : Int32) _ _ _ _ h rk_nb0 dX10_isPartition_71 hP hD hS
        · have h := rk_nnif hc2 h
          refine lv_iconst (v := 1) hx hb dX10_isPartition_66 (by decide) ?_
          refine lv_goto (tgt := 71) hx hb dX10_isPartition_67 (by decide) ?_
          exact hret (1 : Int32) _ _ _ _ h rk_nb1 dX10_isPartition_71 hP hD hS
      · have h := rk_nif hc1 h
        refine lv_aload_n hx hb dX10_isPartition_21 rfl (lv_at hl 0 rfl) ?_
        refine va_get (D := D) (ci := 9) (v := .ref a_this_buffer) (C := RX10) (T := TX10) (N := 17) hx hb htc inX10 hown hV.1 hR 0 rfl rfl 7 (by decide) (htc _ w_4_5) (fun _ h9 => h9) rfl dX10_isPartition_22 ?_
        refine lv_iload_n hx hb dX10_isPartition_25 rfl (lv_at hl 3 rfl) ?_
        obtain ⟨hg3, h⟩ := rk_gd h
        refine va_iald hx hb hV.1 hR 1 0 rfl rfl hg3 dX10_isPartition_26 ?_
        refine lv_i2l hx hb dX10_isPartition_27 rfl ?_
        refine lv_lconst (v := 0) hx hb dX10_isPartition_28 (by decide) ?_
        refine lv_iload_n hx hb dX10_isPartition_29 rfl (lv_at hl 1 rfl) ?_
        refine lv_i2l hx hb dX10_isPartition_30 rfl ?_
        obtain ⟨r_31, hc_31, h⟩ := rk_bd h
        refine rk_i (wr := []) (va_runS (As := [.long (c_this_buffer b11_l3.toNatClampNeg).toInt64, .long (0 : Int64), .long b11_l1.toInt64]) (rest := []) hF (mtX10_within l D cI cJ cO PL _ ((c_this_buffer b11_l3.toNatClampNeg).toInt64) (0 : Int64) b11_l1.toInt64 r_31 hc_31) (va_cwS 3 htc (rk_gVS w_4_55 w_4_56 w_1_7 w_4_57) rfl rfl rfl (by decide +kernel) ⟨(Nat.le_of_ble_eq_true rfl), (Nat.le_of_ble_eq_true rfl)⟩) (rk_preS hP hD hS hR hn hPL hnl hV [] [] rfl (by decide) rfl (by decide)) rfl rfl hl.1 rfl (lv_room (Nat.le_of_ble_eq_true rfl)) dX10_isPartition_31 ⟨(Nat.le_of_ble_eq_true rfl), (Nat.le_of_ble_eq_true rfl)⟩) hP hD hS hA hR0 hn [] [] rfl rfl (by decide) (by decide) (fun H locs hP hD hS hR => ?_)
        have hP : va_P D vwCl [] H := hP
        have hD : va_D A [] := hD
        refine lv_if_ne (tgt := 39) hx hb dX10_isPartition_34 (by decide) (fun hc4 => ?_) (fun hc4 => ?_)
        · have h := rk_if hc4 h
          refine lv_aload_n hx hb dX10_isPartition_39 rfl (lv_at hl 0 rfl) ?_
          refine va_get (D := D) (ci := 9) (v := .ref a_this_buffer) (C := RX10) (T := TX10) (N := 17) hx hb htc inX10 hown hV.1 hR 0 rfl rfl 7 (by decide) (htc _ w_4_5) (fun _ h9 => h9) rfl dX10_isPartition_40 ?_
          refine lv_iload_n hx hb dX10_isPartition_43 rfl (lv_at hl 3 rfl) ?_
          refine va_iald hx hb hV.1 hR 1 0 rfl rfl hg3 dX10_isPartition_44 ?_
          refine lv_istore_n (lv' := [(1, .int (c_this_buffer b11_l3.toNatClampNeg)), (0, .ref a_this), (2, .int b11_l2), (3, .int b11_l3)]) hx hb dX10_isPartition_45 rfl hl (by decide) rfl (fun ls hl => ?_)
          refine lv_iload_n hx hb dX10_isPartition_46 rfl (lv_at hl 2 rfl) ?_
          refine lv_iload_n hx hb dX10_isPartition_47 rfl (lv_at hl 0 rfl) ?_
          refine lv_iadd hx hb dX10_isPartition_48 ?_
          refine lv_istore_n (lv' := [(2, .int (b11_l2 + (c_this_buffer b11_l3.toNatClampNeg))), (1, .int (c_this_buffer b11_l3.toNatClampNeg)), (0, .ref a_this), (3, .int b11_l3)]) hx hb dX10_isPartition_49 rfl hl (by decide) rfl (fun ls hl => ?_)
          refine lv_iinc (v := (b11_l3 + 1)) (lv' := [(3, .int (b11_l3 + 1)), (2, .int (b11_l2 + (c_this_buffer b11_l3.toNatClampNeg))), (1, .int (c_this_buffer b11_l3.toNatClampNeg)), (0, .ref a_this)]) hx hb dX10_isPartition_50 hl (k := 3) rfl rfl (by decide) rfl (fun ls hl => ?_)
          refine lv_goto (tgt := 11) hx hb dX10_isPartition_53 (by decide) ?_
          exact ih11 (c_this_buffer b11_l3.toNatClampNeg) (b11_l2 + (c_this_buffer b11_l3.toNatClampNeg)) (b11_l3 + 1) h _ _ hP hD hS _ (lv_sub hl [3, 2, 1, 0] rfl)
        · have h := rk_nnif hc4 h
          refine lv_iconst (v := 0) hx hb dX10_isPartition_37 (by decide) ?_
          exact hret (0 : Int32) _ _ _ _ h rk_nb0 dX10_isPartition_38 hP hD hS
  exact L11 FU (c_this_of 1) (0 : Int32) (0 : Int32) h _ _ hP hD hS _ (lv_sub hl [3, 2, 1, 0] rfl)
set_option maxHeartbeats 4000000 in
set_option maxRecDepth 100000 in
theorem mtX10_manyIn (l : Launch) (D : va_G) (cI cJ cO : ClassId) (PL : va_W) (sz : Nat) (a_this : Nat) (a_this_chosen : Nat) (a_this_factorial : Nat) (a_this_catalan : Nat) (a_this_parted : Nat) (a_this_closed : Nat) (f_this_now : Int32) (a_this_of : Nat) (a_this_buffer : Nat) (a_this_made : Nat) (a_this_stackOne : Nat) (a_this_stackOther : Nat) (a_this_stackLong : Nat) (a_this_left : Nat) (f_this_entryMany : Int32) (a_this_entryFamily : Nat) (a_this_entryOf : Nat) (a_this_entryRank : Nat) (c_this_buffer : Nat → Int32) (c_this_of : Nat → Int32) (v_p1 : Int32) (r0 : Int32) (h : fX10_manyIn f_this_now c_this_buffer c_this_of v_p1 = some r0) : Met l yX10_manyIn (rk_w yX10_manyIn cX10_manyIn 4 (some .int)) rmX10_manyIn (va_Pc [.ref a_this, .int v_p1] (rk_B D (rk_TY cI cJ cO) [] [(a_this, .inr (9, [.ref a_this_chosen, .ref a_this_factorial, .ref a_this_catalan, .ref a_this_parted, .ref a_this_closed, .int f_this_now, .ref a_this_of, .ref a_this_buffer, .ref a_this_made, .ref a_this_stackOne, .ref a_this_stackOther, .ref a_this_stackLong, .ref a_this_left, .int f_this_entryMany, .ref a_this_entryFamily, .ref a_this_entryOf, .ref a_this_entryRank])), (a_this_buffer, .inl (cI, 60, .inl c_this_buffer)), (a_this_of, .inl (cI, 4, .inl c_this_of))] PL sz)) (rk_Qi r0 D [] [] sz) 0 0 (va_A [] sz) := by
  refine rk_meti h (fun x : Int32 => x) (fun x => []) (by decide) (Nat.le_of_ble_eq_true rfl) ?_
  intro p e s m args below meth c A ls Q hret hname hF hP hD hA hV hR0 hn hPL hnl hl h hS
  have hx := hF.1
  have hb := hF.2.1
  have hml := hF.2.2.1
  have hown : s.vm.findClass RX10 = some m.cls := hF.2.2.2.1
  have htc := hF.2.2.2.2
  have hP : va_P D vwCl [] s.heap := hP
  have hD : va_D A [] := hD
  have hR0 : va_P D vwCl [(a_this, .inr (9, [.ref a_this_chosen, .ref a_this_factorial, .ref a_this_catalan, .ref a_this_parted, .ref a_this_closed, .int f_this_now, .ref a_this_of, .ref a_this_buffer, .ref a_this_made, .ref a_this_stackOne, .ref a_this_stackOther, .ref a_this_stackLong, .ref a_this_left, .int f_this_entryMany, .ref a_this_entryFamily, .ref a_this_entryOf, .ref a_this_entryRank])), (a_this_buffer, .inl (cI, 60, .inl c_this_buffer)), (a_this_of, .inl (cI, 4, .inl c_this_of))] s.heap := hR0
  have hR := hR0
  have hl : lv_has ls 4 [(0, .ref a_this), (1, .int v_p1)] := hl
  unfold fX10_manyIn at h
  refine lv_iconst (v := 0) hx hb dX10_manyIn_0 (by decide) ?_
  refine lv_istore_n (lv' := [(2, .int (0 : Int32)), (0, .ref a_this), (1, .int v_p1)]) hx hb dX10_manyIn_1 rfl hl (by decide) rfl (fun ls hl => ?_)
  refine lv_iconst (v := 0) hx hb dX10_manyIn_2 (by decide) ?_
  refine lv_istore_n (lv' := [(3, .int (0 : Int32)), (2, .int (0 : Int32)), (0, .ref a_this), (1, .int v_p1)]) hx hb dX10_manyIn_3 rfl hl (by decide) rfl (fun ls hl => ?_)
  have L4 : ∀ (n4 : Nat) (b4_l2 : Int32) (b4_l3 : Int32), rk_it2 (fX10_manyIn_L4 f_this_now c_this_buffer c_this_of v_p1) n4 b4_l2 b4_l3 = some r0 → ∀ (H : Heap) (locs : List Loc), va_P D vwCl [] H → va_D A [] → va_S A s.heap H locs → ∀ (ls : Array Slot), lv_has ls 4 [(0, .ref a_this), (1, .int v_p1), (2, .int b4_l2), (3, .int b4_l3)] → W p l e rmX10_manyIn s m args below meth c H locs 0 0 Q (F0 m 4 ls []) := by
    intro n4
    induction n4 with
    | zero => intro b4_l2 b4_l3 h; exact rk_no h
    | succ n4 ih4 =>
      intro b4_l2 b4_l3 h H locs hP hD hS ls hl
      have h : fX10_manyIn_L4 f_this_now c_this_buffer c_this_of v_p1 (rk_it2 (fX10_manyIn_L4 f_this_now c_this_buffer c_this_of v_p1) n4) b4_l2 b4_l3 = some r0 := h
      unfold fX10_manyIn_L4 at h
      have hR := rk_keep hR0 hn hS
      refine lv_iload_n hx hb dX10_manyIn_4 rfl (lv_at hl 3 rfl) ?_
      refine lv_aload_n hx hb dX10_manyIn_5 rfl (lv_at hl 0 rfl) ?_
      obtain ⟨r_6, hc_6, h⟩ := rk_bd h
      refine rk_i (wr := []) (va_runV (C := RX10) (As := []) (rest := [.int b4_l3]) hF (mtX10_longNow l D cI cJ cO PL _ a_this a_this_chosen a_this_factorial a_this_catalan a_this_parted a_this_closed f_this_now a_this_of a_this_buffer a_this_made a_this_stackOne a_this_stackOther a_this_stackLong a_this_left f_this_entryMany a_this_entryFamily a_this_entryOf a_this_entryRank c_this_of r_6 hc_6) (cwV 0 htc (rk_gV w_4_111 w_4_113 ws_48 w_1_7 w_4_114) rfl rfl rfl (by decide +kernel) ⟨(Nat.le_of_ble_eq_true rfl), (Nat.le_of_ble_eq_true rfl)⟩) (rk_preV (va_recv hV.1 hR (ci := 9) (q0 := 0) rfl rfl) (rk_preS hP hD hS hR hn hPL hnl hV [] [(false, 0), (false, 2)] rfl (by decide) rfl (by decide))) rfl rfl hl.1 rfl (lv_room (Nat.le_of_ble_eq_true rfl)) dX10_manyIn_6 ⟨(Nat.le_of_ble_eq_true rfl), (Nat.le_of_ble_eq_true rfl)⟩) hP hD hS hA hR0 hn [] [] rfl rfl (by decide) (by decide) (fun H locs hP hD hS hR => ?_)
      have hP : va_P D vwCl [] H := hP
      have hD : va_D A [] := hD
      refine lv_icmp_ge (tgt := 36) hx hb dX10_manyIn_9 (by decide) (fun hc1 => ?_) (fun hc1 => ?_)
      · have h := rk_if hc1 h
        refine lv_iload_n hx hb dX10_manyIn_36 rfl (lv_at hl 2 rfl) ?_
        exact hret b4_l2 _ _ _ _ h dX10_manyIn_37 hP hD hS
      · have h := rk_nif hc1 h
        refine lv_iload_n hx hb dX10_manyIn_12 rfl (lv_at hl 2 rfl) ?_
        refine lv_aload_n hx hb dX10_manyIn_13 rfl (lv_at hl 0 rfl) ?_
        refine va_get (D := D) (ci := 9) (v := .ref a_this_buffer) (C := RX10) (T := TX10) (N := 17) hx hb htc inX10 hown hV.1 hR 0 rfl rfl 7 (by decide) (htc _ w_4_5) (fun _ h9 => h9) rfl dX10_manyIn_14 ?_
        refine lv_iload_n hx hb dX10_manyIn_17 rfl (lv_at hl 3 rfl) ?_
        obtain ⟨hg2, h⟩ := rk_gd h
        refine va_iald hx hb hV.1 hR 1 0 rfl rfl hg2 dX10_manyIn_18 ?_
        refine lv_iload_n hx hb dX10_manyIn_19 rfl (lv_at hl 1 rfl) ?_
        have B28 : ∀ (b28_t1 : Int32), fX10_manyIn_B28 b4_l2 b4_l3 (rk_it2 (fX10_manyIn_L4 f_this_now c_this_buffer c_this_of v_p1) n4) b28_t1 = some r0 → ∀ (H : Heap) (locs : List Loc), va_P D vwCl [] H → va_D A [] → va_S A s.heap H locs → ∀ (ls : Array Slot), lv_has ls 4 [(0, .ref a_this), (1, .int v_p1), (3, .int b4_l3)] → W p l e rmX10_manyIn s m args below meth c H locs 0 0 Q (F0 m 28 ls [.int b28_t1, .int b4_l2]) := by
          intro b28_t1 h H locs hP hD hS ls hl
          unfold fX10_manyIn_B28 at h
          have hR := rk_keep hR0 hn hS
          refine lv_iadd hx hb dX10_manyIn_28 ?_
          refine lv_istore_n (lv' := [(2, .int (b4_l2 + b28_t1)), (0, .ref a_this), (1, .int v_p1), (3, .int b4_l3)]) hx hb dX10_manyIn_29 rfl hl (by decide) rfl (fun ls hl => ?_)
          refine lv_iinc (v := (b4_l3 + 1)) (lv' := [(3, .int (b4_l3 + 1)), (2, .int (b4_l2 + b28_t1)), (0, .ref a_this), (1, .int v_p1)]) hx hb dX10_manyIn_30 hl (k := 3) rfl rfl (by decide) rfl (fun ls hl => ?_)
          refine lv_goto (tgt := 4) hx hb dX10_manyIn_33 (by decide) ?_
          exact ih4 (b4_l2 + b28_t1) (b4_l3 + 1) h _ _ hP hD hS _ (lv_sub hl [2, 3, 1, 0] rfl)
        refine lv_icmp_ne (tgt := 27) hx hb dX10_manyIn_20 (by decide) (fun hc3 => ?_) (fun hc3 => ?_)
        · have h := rk_if hc3 h
          refine lv_iconst (v := 0) hx hb dX10_manyIn_27 (by decide) ?_
          exact B28 (0 : Int32) h _ _ hP hD hS _ (lv_sub hl [0, 1, 3] rfl)
        · have h := rk_nnif hc3 h
          refine lv_iconst (v := 1) hx hb dX10_manyIn_23 (by decide) ?_
          refine lv_goto (tgt := 28) hx hb dX10_manyIn_24 (by decide) ?_
          exact B28 (1 : Int32) h _ _ hP hD hS _ (lv_sub hl [0, 1, 3] rfl)
  exact L4 FU (0 : Int32) (0 : Int32) h _ _ hP hD hS _ (lv_sub hl [2, 3, 1, 0] rfl)
set_option maxHeartbeats 4000000 in
set_option maxRecDepth 100000 in
theorem mtX10_isGood (l : Launch) (D : va_G) (cI cJ cO : ClassId) (PL : va_W) (sz : Nat) (a_this : Nat) (a_this_chosen : Nat) (a_this_factorial : Nat) (a_this_catalan : Nat) (a_this_parted : Nat) (a_this_closed : Nat) (f_this_now : Int32) (a_this_of : Nat) (a_this_buffer : Nat) (a_this_made : Nat) (a_this_stackOne : Nat) (a_this_stackOther : Nat) (a_this_stackLong : Nat) (a_this_left : Nat) (f_this_entryMany : Int32) (a_this_entryFamily : Nat) (a_this_entryOf : Nat) (a_this_entryRank : Nat) (c_this_stackOne : Nat → Int32) (c_this_buffer : Nat → Int32) (c_this_of : Nat → Int32) (r0 : Int32 × (Nat → Int32)) (h : fX10_isGood f_this_now c_this_stackOne c_this_buffer c_this_of = some r0) : Met l yX10_isGood (rk_w yX10_isGood cX10_isGood 1 (some .boolean)) rmX10_isGood (va_Pc [.ref a_this] (rk_B D (rk_TY cI cJ cO) [(a_this_stackOne, .inl (cI, 64, .inl c_this_stackOne))] [(a_this, .inr (9, [.ref a_this_chosen, .ref a_this_factorial, .ref a_this_catalan, .ref a_this_parted, .ref a_this_closed, .int f_this_now, .ref a_this_of, .ref a_this_buffer, .ref a_this_made, .ref a_this_stackOne, .ref a_this_stackOther, .ref a_this_stackLong, .ref a_this_left, .int f_this_entryMany, .ref a_this_entryFamily, .ref a_this_entryOf, .ref a_this_entryRank])), (a_this_buffer, .inl (cI, 60, .inl c_this_buffer)), (a_this_of, .inl (cI, 4, .inl c_this_of))] PL sz)) (rk_Qi r0.1 D [(a_this_stackOne, .inl (cI, 64, .inl r0.2))] [(a_this_stackOne, .inl (cI, 64, .inl c_this_stackOne))] sz) 0 0 (va_A [(a_this_stackOne, .inl (cI, 64, .inl c_this_stackOne))] sz) := by
  refine rk_metz h (fun x : Int32 × (Nat → Int32) => x.1) (fun x => [(a_this_stackOne, .inl (cI, 64, .inl x.2))]) (by decide) (Nat.le_of_ble_eq_true rfl) ?_
  intro p e s m args below meth c A ls Q hret hname hF hP hD hA hV hR0 hn hPL hnl hl h hS
  have hx := hF.1
  have hb := hF.2.1
  have hml := hF.2.2.1
  have hown : s.vm.findClass RX10 = some m.cls := hF.2.2.2.1
  have htc := hF.2.2.2.2
  have hP : va_P D vwCl [(a_this_stackOne, .inl (cI, 64, .inl c_this_stackOne))] s.heap := hP
  have hD : va_D A [(a_this_stackOne, .inl (cI, 64, .inl c_this_stackOne))] := hD
  have hR0 : va_P D vwCl [(a_this, .inr (9, [.ref a_this_chosen, .ref a_this_factorial, .ref a_this_catalan, .ref a_this_parted, .ref a_this_closed, .int f_this_now, .ref a_this_of, .ref a_this_buffer, .ref a_this_made, .ref a_this_stackOne, .ref a_this_stackOther, .ref a_this_stackLong, .ref a_this_left, .int f_this_entryMany, .ref a_this_entryFamily, .ref a_this_entryOf, .ref a_this_entryRank])), (a_this_buffer, .inl (cI, 60, .inl c_this_buffer)), (a_this_of, .inl (cI, 4, .inl c_this_of))] s.heap := hR0
  have hR := hR0
  have hl : lv_has ls 1 [(0, .ref a_this)] := hl
  unfold fX10_isGood at h
  refine lv_aload_n hx hb dX10_isGood_0 rfl (lv_at hl 0 rfl) ?_
  refine va_get (D := D) (ci := 9) (v := .int f_this_now) (C := RX10) (T := TX10) (N := 17) hx hb htc inX10 hown hV.1 hR 0 rfl rfl 5 (by decide) (htc _ w_4_3) (fun _ h9 => h9) rfl dX10_isGood_1 ?_
  by_cases hk1 : f_this_now = 0
  · have h := rk_if hk1 h
    refine lv_tableIn (off := 36) (tgt := 40) hx hb dX10_isGood_4 (by rw [hk1]; decide) (by rw [hk1]; decide) (by rw [hk1]; decide) (by decide) ?_
    refine lv_aload_n hx hb dX10_isGood_40 rfl (lv_at hl 0 rfl) ?_
    obtain ⟨r_41, hc_41, h⟩ := rk_bd h
    refine rk_i (wr := [(a_this_stackOne, .inl (cI, 64, .inl c_this_stackOne))]) (va_runV (C := RX10) (As := []) (rest := []) hF (mtX10_isSubset l D cI cJ cO PL _ a_this a_this_chosen a_this_factorial a_this_catalan a_this_parted a_this_closed f_this_now a_this_of a_this_buffer a_this_made a_this_stackOne a_this_stackOther a_this_stackLong a_this_left f_this_entryMany a_this_entryFamily a_this_entryOf a_this_entryRank c_this_buffer c_this_of r_41 hc_41) (cwV 0 htc (rk_gV w_4_193 w_4_195 ws_55 w_1_7 w_4_196) rfl rfl rfl (by decide +kernel) ⟨(Nat.le_of_ble_eq_true rfl), (Nat.le_of_ble_eq_true rfl)⟩) (rk_preV (va_recv hV.1 hR (ci := 9) (q0 := 0) rfl rfl) (rk_preS hP hD hS hR hn hPL hnl hV [] [(false, 0), (false, 1), (false, 2)] rfl (by decide) rfl (by decide))) rfl rfl hl.1 rfl (lv_room (Nat.le_of_ble_eq_true rfl)) dX10_isGood_41 ⟨(Nat.le_of_ble_eq_true rfl), (Nat.le_of_ble_eq_true rfl)⟩) hP hD hS hA hR0 hn [] [0] rfl rfl (by decide) (by decide) (fun H locs hP hD hS hR => ?_)
    have hP : va_P D vwCl [(a_this_stackOne, .inl (cI, 64, .inl c_this_stackOne))] H := hP
    have hD : va_D A [(a_this_stackOne, .inl (cI, 64, .inl c_this_stackOne))] := hD
    obtain ⟨hz2, h⟩ := rk_gp h
    exact hret (r_41, c_this_stackOne) _ _ _ _ h (rk_nz hz2) dX10_isGood_44 hP hD hS
  have h := rk_nif hk1 h
  by_cases hk3 : f_this_now = 1
  · have h := rk_if hk3 h
    refine lv_tableIn (off := 41) (tgt := 45) hx hb dX10_isGood_4 (by rw [hk3]; decide) (by rw [hk3]; decide) (by rw [hk3]; decide) (by decide) ?_
    refine lv_aload_n hx hb dX10_isGood_45 rfl (lv_at hl 0 rfl) ?_
    obtain ⟨r_46, hc_46, h⟩ := rk_bd h
    refine rk_i (wr := [(a_this_stackOne, .inl (cI, 64, .inl c_this_stackOne))]) (va_runV (C := RX10) (As := []) (rest := []) hF (mtX10_isPermutation l D cI cJ cO PL _ a_this a_this_chosen a_this_factorial a_this_catalan a_this_parted a_this_closed f_this_now a_this_of a_this_buffer a_this_made a_this_stackOne a_this_stackOther a_this_stackLong a_this_left f_this_entryMany a_this_entryFamily a_this_entryOf a_this_entryRank c_this_buffer c_this_of r_46 hc_46) (cwV 0 htc (rk_gV w_4_197 w_4_199 ws_56 w_1_7 w_4_200) rfl rfl rfl (by decide +kernel) ⟨(Nat.le_of_ble_eq_true rfl), (Nat.le_of_ble_eq_true rfl)⟩) (rk_preV (va_recv hV.1 hR (ci := 9) (q0 := 0) rfl rfl) (rk_preS hP hD hS hR hn hPL hnl hV [] [(false, 0), (false, 1), (false, 2)] rfl (by decide) rfl (by decide))) rfl rfl hl.1 rfl (lv_room (Nat.le_of_ble_eq_true rfl)) dX10_isGood_46 ⟨(Nat.le_of_ble_eq_true rfl), (Nat.le_of_ble_eq_true rfl)⟩) hP hD hS hA hR0 hn [] [0] rfl rfl (by decide) (by decide) (fun H locs hP hD hS hR => ?_)
    have hP : va_P D vwCl [(a_this_stackOne, .inl (cI, 64, .inl c_this_stackOne))] H := hP
    have hD : va_D A [(a_this_stackOne, .inl (cI, 64, .inl c_this_stackOne))] := hD
    obtain ⟨hz4, h⟩ := rk_gp h
    exact hret (r_46, c_this_stackOne) _ _ _ _ h (rk_nz hz4) dX10_isGood_49 hP hD hS
  have h := rk_nif hk3 h
  by_cases hk5 : f_this_now = 2
  · have h := rk_if hk5 h
    refine lv_tableIn (off := 46) (tgt := 50) hx hb dX10_isGood_4 (by rw [hk5]; decide) (by rw [hk5]; decide) (by rw [hk5]; decide) (by decide) ?_
    refine lv_aload_n hx hb dX10_isGood_50 rfl (lv_at hl 0 rfl) ?_
    obtain ⟨r_51, hc_51, h⟩ := rk_bd h
    refine rk_i (wr := []) (va_runV (C := RX10) (As := []) (rest := []) hF (mtX10_isWord l D cI cJ cO PL _ a_this a_this_chosen a_this_factorial a_this_catalan a_this_parted a_this_closed f_this_now a_this_of a_this_buffer a_this_made a_this_stackOne a_this_stackOther a_this_stackLong a_this_left f_this_entryMany a_this_entryFamily a_this_entryOf a_this_entryRank c_this_stackOne c_this_buffer c_this_of r_51 hc_51) (cwV 0 htc (rk_gV w_4_201 w_4_203 ws_57 w_1_7 w_4_204) rfl rfl rfl (by decide +kernel) ⟨(Nat.le_of_ble_eq_true rfl), (Nat.le_of_ble_eq_true rfl)⟩) (rk_preV (va_recv hV.1 hR (ci := 9) (q0 := 0) rfl rfl) (rk_preS hP hD hS hR hn hPL hnl hV [0] [(false, 0), (false, 1), (false, 2)] rfl (by decide) rfl (by decide))) rfl rfl hl.1 rfl (lv_room (Nat.le_of_ble_eq_true rfl)) dX10_isGood_51 ⟨(Nat.le_of_ble_eq_true rfl), (Nat.le_of_ble_eq_true rfl)⟩) hP hD hS hA hR0 hn [0] [] rfl rfl (by decide) (by decide) (fun H locs hP hD hS hR => ?_)
    have hP : va_P D vwCl [(a_this_stackOne, .inl (cI, 64, .inl r_51.2))] H := hP
    have hD : va_D A [(a_this_stackOne, .inl (cI, 64, .inl r_51.2))] := hD
    obtain ⟨hz6, h⟩ := rk_gp h
    exact hret (r_51.1, r_51.2) _ _ _ _ h (rk_nz hz6) dX10_isGood_54 hP hD hS
  have h := rk_nif hk5 h
  by_cases hk7 : f_this_now = 3
  · have h := rk_if hk7 h
    refine lv_tableIn (off := 51) (tgt := 55) hx hb dX10_isGood_4 (by rw [hk7]; decide) (by rw [hk7]; decide) (by rw [hk7]; decide) (by decide) ?_
    refine lv_aload_n hx hb dX10_isGood_55 rfl (lv_at hl 0 rfl) ?_
    obtain ⟨r_56, hc_56, h⟩ := rk_bd h
    refine rk_i (wr := []) (va_runV (C := RX10) (As := []) (rest := []) hF (mtX10_isTree l D cI cJ cO PL _ a_this a_this_chosen a_this_factorial a_this_catalan a_this_parted a_this_closed f_this_now a_this_of a_this_buffer a_this_made a_this_stackOne a_this_stackOther a_this_stackLong a_this_left f_this_entryMany a_this_entryFamily a_this_entryOf a_this_entryRank c_this_stackOne c_this_buffer c_this_of r_56 hc_56) (cwV 0 htc (rk_gV w_4_205 w_4_207 ws_58 w_1_7 w_4_208) rfl rfl rfl (by decide +kernel) ⟨(Nat.le_of_ble_eq_true rfl), (Nat.le_of_ble_eq_true rfl)⟩) (rk_preV (va_recv hV.1 hR (ci := 9) (q0 := 0) rfl rfl) (rk_preS hP hD hS hR hn hPL hnl hV [0] [(false, 0), (false, 1), (false, 2)] rfl (by decide) rfl (by decide))) rfl rfl hl.1 rfl (lv_room (Nat.le_of_ble_eq_true rfl)) dX10_isGood_56 ⟨(Nat.le_of_ble_eq_true rfl), (Nat.le_of_ble_eq_true rfl)⟩) hP hD hS hA hR0 hn [0] [] rfl rfl (by decide) (by decide) (fun H locs hP hD hS hR => ?_)
    have hP : va_P D vwCl [(a_this_stackOne, .inl (cI, 64, .inl r_56.2))] H := hP
    have hD : va_D A [(a_this_stackOne, .inl (cI, 64, .inl r_56.2))] := hD
    obtain ⟨hz8, h⟩ := rk_gp h
    exact hret (r_56.1, r_56.2) _ _ _ _ h (rk_nz hz8) dX10_isGood_59 hP hD hS
  have h := rk_nif hk7 h
  by_cases hk9 : f_this_now = 4
  · have h := rk_if hk9 h
    refine lv_tableIn (off := 56) (tgt := 60) hx hb dX10_isGood_4 (by rw [hk9]; decide) (by rw [hk9]; decide) (by rw [hk9]; decide) (by decide) ?_
    refine lv_aload_n hx hb dX10_isGood_60 rfl (lv_at hl 0 rfl) ?_
    obtain ⟨r_61, hc_61, h⟩ := rk_bd h
    refine rk_i (wr := [(a_this_stackOne, .inl (cI, 64, .inl c_this_stackOne))]) (va_runV (C := RX10) (As := []) (rest := []) hF (mtX10_isPartition l D cI cJ cO PL _ a_this a_this_chosen a_this_factorial a_this_catalan a_this_parted a_this_closed f_this_now a_this_of a_this_buffer a_this_made a_this_stackOne a_this_stackOther a_this_stackLong a_this_left f_this_entryMany a_this_entryFamily a_this_entryOf a_this_entryRank c_this_buffer c_this_of r_61 hc_61) (cwV 0 htc (rk_gV w_4_209 w_4_211 ws_59 w_1_7 w_4_212) rfl rfl rfl (by decide +kernel) ⟨(Nat.le_of_ble_eq_true rfl), (Nat.le_of_ble_eq_true rfl)⟩) (rk_preV (va_recv hV.1 hR (ci := 9) (q0 := 0) rfl rfl) (rk_preS hP hD hS hR hn hPL hnl hV [] [(false, 0), (false, 1), (false, 2)] rfl (by decide) rfl (by decide))) rfl rfl hl.1 rfl (lv_room (Nat.le_of_ble_eq_true rfl)) dX10_isGood_61 ⟨(Nat.le_of_ble_eq_true rfl), (Nat.le_of_ble_eq_true rfl)⟩) hP hD hS hA hR0 hn [] [0] rfl rfl (by decide) (by decide) (fun H locs hP hD hS hR => ?_)
    have hP : va_P D vwCl [(a_this_stackOne, .inl (cI, 64, .inl c_this_stackOne))] H := hP
    have hD : va_D A [(a_this_stackOne, .inl (cI, 64, .inl c_this_stackOne))] := hD
    obtain ⟨hz10, h⟩ := rk_gp h
    exact hret (r_61, c_this_stackOne) _ _ _ _ h (rk_nz hz10) dX10_isGood_64 hP hD hS
  have h := rk_nif hk9 h
  refine lv_tableOut (tgt := 65) hx hb dX10_isGood_4 (rk_tb5 hk1 hk3 hk5 hk7 hk9) (by decide) ?_
  refine lv_aload_n hx hb dX10_isGood_65 rfl (lv_at hl 0 rfl) ?_
  refine lv_iconst (v := 0) hx hb dX10_isGood_66 (by decide) ?_
  obtain ⟨r_67, hc_67, h⟩ := rk_bd h
  refine rk_i (wr := [(a_this_stackOne, .inl (cI, 64, .inl c_this_stackOne))]) (va_runV (C := RX10) (As := [.int (0 : Int32)]) (rest := []) hF (mtX10_manyIn l D cI cJ cO PL _ a_this a_this_chosen a_this_factorial a_this_catalan a_this_parted a_this_closed f_this_now a_this_of a_this_buffer a_this_made a_this_stackOne a_this_stackOther a_this_stackLong a_this_left f_this_entryMany a_this_entryFamily a_this_entryOf a_this_entryRank c_this_buffer c_this_of (0 : Int32) r_67 hc_67) (cwV 1 htc (rk_gV w_4_213 w_4_215 ws_60 w_1_7 w_4_216) rfl rfl rfl (by decide +kernel) ⟨(Nat.le_of_ble_eq_true rfl), (Nat.le_of_ble_eq_true rfl)⟩) (rk_preV (va_recv hV.1 hR (ci := 9) (q0 := 0) rfl rfl) (rk_preS hP hD hS hR hn hPL hnl hV [] [(false, 0), (false, 1), (false, 2)] rfl (by decide) rfl (by decide))) rfl rfl hl.1 rfl (lv_room (Nat.le_of_ble_eq_true rfl)) dX10_isGood_67 ⟨(Nat.le_of_ble_eq_true rfl), (Nat.le_of_ble_eq_true rfl)⟩) hP hD hS hA hR0 hn [] [0] rfl rfl (by decide) (by decide) (fun H locs hP hD hS hR => ?_)
  have hP : va_P D vwCl [(a_this_stackOne, .inl (cI, 64, .inl c_this_stackOne))] H := hP
  have hD : va_D A [(a_this_stackOne, .inl (cI, 64, .inl c_this_stackOne))] := hD
  refine lv_aload_n hx hb dX10_isGood_70 rfl (lv_at hl 0 rfl) ?_
  refine va_get (D := D) (ci := 9) (v := .ref a_this_of) (C := RX10) (T := TX10) (N := 17) hx hb htc inX10 hown hV.1 hR 0 rfl rfl 6 (by decide) (htc _ w_4_4) (fun _ h9 => h9) rfl dX10_isGood_71 ?_
  refine lv_iconst (v := 0) hx hb dX10_isGood_74 (by decide) ?_
  refine va_iald hx hb hV.1 hR 2 0 rfl rfl (show vp_in (0 : Int32) 4 from (by decide : ¬ ((0 : Int32) < 0 ∨ 4 ≤ (0 : Int32).toNatClampNeg))) dX10_isGood_75 ?_
  refine W.eq (g2 := F0 m 76 ls [.int (c_this_of 0), .int r_67]) rfl ?_
  have B125 : fX10_isGood_B125 c_this_stackOne = some r0 → ∀ (H : Heap) (locs : List Loc), va_P D vwCl [(a_this_stackOne, .inl (cI, 64, .inl c_this_stackOne))] H → va_D A [(a_this_stackOne, .inl (cI, 64, .inl c_this_stackOne))] → va_S A s.heap H locs → ∀ (ls : Array Slot), lv_has ls 1 [] → W p l e rmX10_isGood s m args below meth c H locs 0 0 Q (F0 m 125 ls []) := by
    intro  h H locs hP hD hS ls hl
    unfold fX10_isGood_B125 at h
    have hR := rk_keep hR0 hn hS
    refine lv_iconst (v := 0) hx hb dX10_isGood_125 (by decide) ?_
    exact hret ((0 : Int32), c_this_stackOne) _ _ _ _ h rk_nb0 dX10_isGood_126 hP hD hS
  refine lv_icmp_ne (tgt := 125) hx hb dX10_isGood_76 (by decide) (fun hc11 => ?_) (fun hc11 => ?_)
  · have h := rk_if hc11 h
    exact B125  h _ _ hP hD hS _ (lv_sub hl [] rfl)
  · have h := rk_nnif hc11 h
    refine lv_aload_n hx hb dX10_isGood_79 rfl (lv_at hl 0 rfl) ?_
    refine lv_iconst (v := 1) hx hb dX10_isGood_80 (by decide) ?_
    obtain ⟨r_81, hc_81, h⟩ := rk_bd h
    refine rk_i (wr := [(a_this_stackOne, .inl (cI, 64, .inl c_this_stackOne))]) (va_runV (C := RX10) (As := [.int (1 : Int32)]) (rest := []) hF (mtX10_manyIn l D cI cJ cO PL _ a_this a_this_chosen a_this_factorial a_this_catalan a_this_parted a_this_closed f_this_now a_this_of a_this_buffer a_this_made a_this_stackOne a_this_stackOther a_this_stackLong a_this_left f_this_entryMany a_this_entryFamily a_this_entryOf a_this_entryRank c_this_buffer c_this_of (1 : Int32) r_81 hc_81) (cwV 1 htc (rk_gV w_4_213 w_4_215 ws_60 w_1_7 w_4_216) rfl rfl rfl (by decide +kernel) ⟨(Nat.le_of_ble_eq_true rfl), (Nat.le_of_ble_eq_true rfl)⟩) (rk_preV (va_recv hV.1 hR (ci := 9) (q0 := 0) rfl rfl) (rk_preS hP hD hS hR hn hPL hnl hV [] [(false, 0), (false, 1), (false, 2)] rfl (by decide) rfl (by decide))) rfl rfl hl.1 rfl (lv_room (Nat.le_of_ble_eq_true rfl)) dX10_isGood_81 ⟨(Nat.le_of_ble_eq_true rfl), (Nat.le_of_ble_eq_true rfl)⟩) hP hD hS hA hR0 hn [] [0] rfl rfl (by decide) (by decide) (fun H locs hP hD hS hR => ?_)
    have hP : va_P D vwCl [(a_this_stackOne, .inl (cI, 64, .inl c_this_stackOne))] H := hP
    have hD : va_D A [(a_this_stackOne, .inl (cI, 64, .inl c_this_stackOne))] := hD
    refine lv_aload_n hx hb dX10_isGood_84 rfl (lv_at hl 0 rfl) ?_
    refine va_get (D := D) (ci := 9) (v := .ref a_this_of) (C := RX10) (T := TX10) (N := 17) hx hb htc inX10 hown hV.1 hR 0 rfl rfl 6 (by decide) (htc _ w_4_4) (fun _ h9 => h9) rfl dX10_isGood_85 ?_
    refine lv_iconst (v := 1) hx hb dX10_isGood_88 (by decide) ?_
    refine va_iald hx hb hV.1 hR 2 0 rfl rfl (show vp_in (1 : Int32) 4 from (by decide : ¬ ((1 : Int32) < 0 ∨ 4 ≤ (1 : Int32).toNatClampNeg))) dX10_isGood_89 ?_
    refine W.eq (g2 := F0 m 90 ls [.int (c_this_of 1), .int r_81]) rfl ?_
    refine lv_icmp_ne (tgt := 125) hx hb dX10_isGood_90 (by decide) (fun hc12 => ?_) (fun hc12 => ?_)
    · have h := rk_if hc12 h
      exact B125  h _ _ hP hD hS _ (lv_sub hl [] rfl)
    · have h := rk_nnif hc12 h
      refine lv_aload_n hx hb dX10_isGood_93 rfl (lv_at hl 0 rfl) ?_
      refine lv_iconst (v := 2) hx hb dX10_isGood_94 (by decide) ?_
      obtain ⟨r_95, hc_95, h⟩ := rk_bd h
      refine rk_i (wr := [(a_this_stackOne, .inl (cI, 64, .inl c_this_stackOne))]) (va_runV (C := RX10) (As := [.int (2 : Int32)]) (rest := []) hF (mtX10_manyIn l D cI cJ cO PL _ a_this a_this_chosen a_this_factorial a_this_catalan a_this_parted a_this_closed f_this_now a_this_of a_this_buffer a_this_made a_this_stackOne a_this_stackOther a_this_stackLong a_this_left f_this_entryMany a_this_entryFamily a_this_entryOf a_this_entryRank c_this_buffer c_this_of (2 : Int32) r_95 hc_95) (cwV 1 htc (rk_gV w_4_213 w_4_215 ws_60 w_1_7 w_4_216) rfl rfl rfl (by decide +kernel) ⟨(Nat.le_of_ble_eq_true rfl), (Nat.le_of_ble_eq_true rfl)⟩) (rk_preV (va_recv hV.1 hR (ci := 9) (q0 := 0) rfl rfl) (rk_preS hP hD hS hR hn hPL hnl hV [] [(false, 0), (false, 1), (false, 2)] rfl (by decide) rfl (by decide))) rfl rfl hl.1 rfl (lv_room (Nat.le_of_ble_eq_true rfl)) dX10_isGood_95 ⟨(Nat.le_of_ble_eq_true rfl), (Nat.le_of_ble_eq_true rfl)⟩) hP hD hS hA hR0 hn [] [0] rfl rfl (by decide) (by decide) (fun H locs hP hD hS hR => ?_)
      have hP : va_P D vwCl [(a_this_stackOne, .inl (cI, 64, .inl c_this_stackOne))] H := hP
      have hD : va_D A [(a_this_stackOne, .inl (cI, 64, .inl c_this_stackOne))] := hD
      refine lv_aload_n hx hb dX10_isGood_98 rfl (lv_at hl 0 rfl) ?_
      refine va_get (D := D) (ci := 9) (v := .ref a_this_of) (C := RX10) (T := TX10) (N := 17) hx hb htc inX10 hown hV.1 hR 0 rfl rfl 6 (by decide) (htc _ w_4_4) (fun _ h9 => h9) rfl dX10_isGood_99 ?_
      refine lv_iconst (v := 2) hx hb dX10_isGood_102 (by decide) ?_
      refine va_iald hx hb hV.1 hR 2 0 rfl rfl (show vp_in (2 : Int32) 4 from (by decide : ¬ ((2 : Int32) < 0 ∨ 4 ≤ (2 : Int32).toNatClampNeg))) dX10_isGood_103 ?_
      refine W.eq (g2 := F0 m 104 ls [.int (c_this_of 2), .int r_95]) rfl ?_
      refine lv_icmp_ne (tgt := 125) hx hb dX10_isGood_104 (by decide) (fun hc13 => ?_) (fun hc13 => ?_)
      · have h := rk_if hc13 h
        exact B125  h _ _ hP hD hS _ (lv_sub hl [] rfl)
      · have h := rk_nnif hc13 h
        refine lv_aload_n hx hb dX10_isGood_107 rfl (lv_at hl 0 rfl) ?_
        refine lv_iconst (v := 3) hx hb dX10_isGood_108 (by decide) ?_
        obtain ⟨r_109, hc_109, h⟩ := rk_bd h
        refine rk_i (wr := [(a_this_stackOne, .inl (cI, 64, .inl c_this_stackOne))]) (va_runV (C := RX10) (As := [.int (3 : Int32)]) (rest := []) hF (mtX10_manyIn l D cI cJ cO PL _ a_this a_this_chosen a_this_factorial a_this_catalan a_this_parted a_this_closed f_this_now a_this_of a_this_buffer a_this_made a_this_stackOne a_this_stackOther a_this_stackLong a_this_left f_this_entryMany a_this_entryFamily a_this_entryOf a_this_entryRank c_this_buffer c_this_of (3 : Int32) r_109 hc_109) (cwV 1 htc (rk_gV w_4_213 w_4_215 ws_60 w_1_7 w_4_216) rfl rfl rfl (by decide +kernel) ⟨(Nat.le_of_ble_eq_true rfl), (Nat.le_of_ble_eq_true rfl)⟩) (rk_preV (va_recv hV.1 hR (ci := 9) (q0 := 0) rfl rfl) (rk_preS hP hD hS hR hn hPL hnl hV [] [(false, 0), (false, 1), (false, 2)] rfl (by decide) rfl (by decide))) rfl rfl hl.1 rfl (lv_room (Nat.le_of_ble_eq_true rfl)) dX10_isGood_109 ⟨(Nat.le_of_ble_eq_true rfl), (Nat.le_of_ble_eq_true rfl)⟩) hP hD hS hA hR0 hn [] [0] rfl rfl (by decide) (by decide) (fun H locs hP hD hS hR => ?_)
        have hP : va_P D vwCl [(a_this_stackOne, .inl (cI, 64, .inl c_this_stackOne))] H := hP
        have hD : va_D A [(a_this_stackOne, .inl (cI, 64, .inl c_this_stackOne))] := hD
        refine lv_aload_n hx hb dX10_isGood_112 rfl (lv_at hl 0 rfl) ?_
        refine va_get (D := D) (ci := 9) (v := .ref a_this_of) (C := RX10) (T := TX10) (N := 17) hx hb htc inX10 hown hV.1 hR 0 rfl rfl 6 (by decide) (htc _ w_4_4) (fun _ h9 => h9) rfl dX10_isGood_113 ?_
        refine lv_iconst (v := 3) hx hb dX10_isGood_116 (by decide) ?_
        refine va_iald hx hb hV.1 hR 2 0 rfl rfl (show vp_in (3 : Int32) 4 from (by decide : ¬ ((3 : Int32) < 0 ∨ 4 ≤ (3 : Int32).toNatClampNeg))) dX10_isGood_117 ?_
        refine W.eq (g2 := F0 m 118 ls [.int (c_this_of 3), .int r_109]) rfl ?_
        refine lv_icmp_ne (tgt := 125) hx hb dX10_isGood_118 (by decide) (fun hc14 => ?_) (fun hc14 => ?_)
        · have h := rk_if hc14 h
          exact B125  h _ _ hP hD hS _ (lv_sub hl [] rfl)
        · have h := rk_nnif hc14 h
          refine lv_iconst (v := 1) hx hb dX10_isGood_121 (by decide) ?_
          refine lv_goto (tgt := 126) hx hb dX10_isGood_122 (by decide) ?_
          exact hret ((1 : Int32), c_this_stackOne) _ _ _ _ h rk_nb1 dX10_isGood_126 hP hD hS
set_option maxHeartbeats 4000000 in
set_option maxRecDepth 100000 in
theorem mtX10_isObject (l : Launch) (D : va_G) (cI cJ cO : ClassId) (PL : va_W) (sz : Nat) (a_this : Nat) (a_this_chosen : Nat) (a_this_factorial : Nat) (a_this_catalan : Nat) (a_this_parted : Nat) (a_this_closed : Nat) (f_this_now : Int32) (a_this_of : Nat) (a_this_buffer : Nat) (a_this_made : Nat) (a_this_stackOne : Nat) (a_this_stackOther : Nat) (a_this_stackLong : Nat) (a_this_left : Nat) (f_this_entryMany : Int32) (a_this_entryFamily : Nat) (a_this_entryOf : Nat) (a_this_entryRank : Nat) (c_this_stackOne : Nat → Int32) (c_this_buffer : Nat → Int32) (c_this_of : Nat → Int32) (r0 : Int32 × (Nat → Int32)) (h : fX10_isObject f_this_now c_this_stackOne c_this_buffer c_this_of = some r0) : Met l yX10_isObject (rk_w yX10_isObject cX10_isObject 1 (some .int)) rmX10_isObject (va_Pc [.ref a_this] (rk_B D (rk_TY cI cJ cO) [(a_this_stackOne, .inl (cI, 64, .inl c_this_stackOne))] [(a_this, .inr (9, [.ref a_this_chosen, .ref a_this_factorial, .ref a_this_catalan, .ref a_this_parted, .ref a_this_closed, .int f_this_now, .ref a_this_of, .ref a_this_buffer, .ref a_this_made, .ref a_this_stackOne, .ref a_this_stackOther, .ref a_this_stackLong, .ref a_this_left, .int f_this_entryMany, .ref a_this_entryFamily, .ref a_this_entryOf, .ref a_this_entryRank])), (a_this_buffer, .inl (cI, 60, .inl c_this_buffer)), (a_this_of, .inl (cI, 4, .inl c_this_of))] PL sz)) (rk_Qi r0.1 D [(a_this_stackOne, .inl (cI, 64, .inl r0.2))] [(a_this_stackOne, .inl (cI, 64, .inl c_this_stackOne))] sz) 0 0 (va_A [(a_this_stackOne, .inl (cI, 64, .inl c_this_stackOne))] sz) := by
  refine rk_meti h (fun x : Int32 × (Nat → Int32) => x.1) (fun x => [(a_this_stackOne, .inl (cI, 64, .inl x.2))]) (by decide) (Nat.le_of_ble_eq_true rfl) ?_
  intro p e s m args below meth c A ls Q hret hname hF hP hD hA hV hR0 hn hPL hnl hl h hS
  have hx := hF.1
  have hb := hF.2.1
  have hml := hF.2.2.1
  have hown : s.vm.findClass RX10 = some m.cls := hF.2.2.2.1
  have htc := hF.2.2.2.2
  have hP : va_P D vwCl [(a_this_stackOne, .inl (cI, 64, .inl c_this_stackOne))] s.heap := hP
  have hD : va_D A [(a_this_stackOne, .inl (cI, 64, .inl c_this_stackOne))] := hD
  have hR0 : va_P D vwCl [(a_this, .inr (9, [.ref a_this_chosen, .ref a_this_factorial, .ref a_this_catalan, .ref a_this_parted, .ref a_this_closed, .int f_this_now, .ref a_this_of, .ref a_this_buffer, .ref a_this_made, .ref a_this_stackOne, .ref a_this_stackOther, .ref a_this_stackLong, .ref a_this_left, .int f_this_entryMany, .ref a_this_entryFamily, .ref a_this_entryOf, .ref a_this_entryRank])), (a_this_buffer, .inl (cI, 60, .inl c_this_buffer)), (a_this_of, .inl (cI, 4, .inl c_this_of))] s.heap := hR0
  have hR := hR0
  have hl : lv_has ls 1 [(0, .ref a_this)] := hl
  unfold fX10_isObject at h
  refine lv_aload_n hx hb dX10_isObject_0 rfl (lv_at hl 0 rfl) ?_
  obtain ⟨r_1, hc_1, h⟩ := rk_bd h
  refine rk_i (wr := []) (va_runV (C := RX10) (As := []) (rest := []) hF (mtX10_isGood l D cI cJ cO PL _ a_this a_this_chosen a_this_factorial a_this_catalan a_this_parted a_this_closed f_this_now a_this_of a_this_buffer a_this_made a_this_stackOne a_this_stackOther a_this_stackLong a_this_left f_this_entryMany a_this_entryFamily a_this_entryOf a_this_entryRank c_this_stackOne c_this_buffer c_this_of r_1 hc_1) (cwV 0 htc (rk_gV w_4_189 w_4_191 ws_54 w_1_7 w_4_192) rfl rfl rfl (by decide +kernel) ⟨(Nat.le_of_ble_eq_true rfl), (Nat.le_of_ble_eq_true rfl)⟩) (rk_preV (va_recv hV.1 hR (ci := 9) (q0 := 0) rfl rfl) (rk_preS hP hD hS hR hn hPL hnl hV [0] [(false, 0), (false, 1), (false, 2)] rfl (by decide) rfl (by decide))) rfl rfl hl.1 rfl (lv_room (Nat.le_of_ble_eq_true rfl)) dX10_isObject_1 ⟨(Nat.le_of_ble_eq_true rfl), (Nat.le_of_ble_eq_true rfl)⟩) hP hD hS hA hR0 hn [0] [] rfl rfl (by decide) (by decide) (fun H locs hP hD hS hR => ?_)
  have hP : va_P D vwCl [(a_this_stackOne, .inl (cI, 64, .inl r_1.2))] H := hP
  have hD : va_D A [(a_this_stackOne, .inl (cI, 64, .inl r_1.2))] := hD
  refine lv_if_eq (tgt := 11) hx hb dX10_isObject_4 (by decide) (fun hc1 => ?_) (fun hc1 => ?_)
  · have h := rk_if hc1 h
    refine lv_iconst (v := 0) hx hb dX10_isObject_11 (by decide) ?_
    exact hret ((0 : Int32), r_1.2) _ _ _ _ h dX10_isObject_12 hP hD hS
  · have h := rk_nif hc1 h
    refine lv_iconst (v := 1) hx hb dX10_isObject_7 (by decide) ?_
    refine lv_goto (tgt := 12) hx hb dX10_isObject_8 (by decide) ?_
    exact hret ((1 : Int32), r_1.2) _ _ _ _ h dX10_isObject_12 hP hD hS
set_option maxHeartbeats 4000000 in
set_option maxRecDepth 100000 in
theorem mtX10_subsetRank (l : Launch) (D : va_G) (cI cJ cO : ClassId) (PL : va_W) (sz : Nat) (a_this : Nat) (a_this_chosen : Nat) (a_this_factorial : Nat) (a_this_catalan : Nat) (a_this_parted : Nat) (a_this_closed : Nat) (f_this_now : Int32) (a_this_of : Nat) (a_this_buffer : Nat) (a_this_made : Nat) (a_this_stackOne : Nat) (a_this_stackOther : Nat) (a_this_stackLong : Nat) (a_this_left : Nat) (f_this_entryMany : Int32) (a_this_entryFamily : Nat) (a_this_entryOf : Nat) (a_this_entryRank : Nat) (c_this_buffer : Nat → Int32) (c_this_chosen : Nat → Int64) (c_this_of : Nat → Int32) (r0 : Int64) (h : fX10_subsetRank c_this_buffer c_this_chosen c_this_of = some r0) : Met l yX10_subsetRank (rk_w yX10_subsetRank cX10_subsetRank 9 (some .long)) rmX10_subsetRank (va_Pc [.ref a_this] (rk_B D (rk_TY cI cJ cO) [] [(a_this, .inr (9, [.ref a_this_chosen, .ref a_this_factorial, .ref a_this_catalan, .ref a_this_parted, .ref a_this_closed, .int f_this_now, .ref a_this_of, .ref a_this_buffer, .ref a_this_made, .ref a_this_stackOne, .ref a_this_stackOther, .ref a_this_stackLong, .ref a_this_left, .int f_this_entryMany, .ref a_this_entryFamily, .ref a_this_entryOf, .ref a_this_entryRank])), (a_this_buffer, .inl (cI, 60, .inl c_this_buffer)), (a_this_chosen, .inl (cJ, 3721, .inr (.inl c_this_chosen))), (a_this_of, .inl (cI, 4, .inl c_this_of))] PL sz)) (rk_Ql r0 D [] [] sz) 0 0 (va_A [] sz) := by
  refine rk_metl h (fun x : Int64 => x) (fun x => []) (by decide) (Nat.le_of_ble_eq_true rfl) ?_
  intro p e s m args below meth c A ls Q hret hname hF hP hD hA hV hR0 hn hPL hnl hl h hS
  have hx := hF.1
  have hb := hF.2.1
  have hml := hF.2.2.1
  have hown : s.vm.findClass RX10 = some m.cls := hF.2.2.2.1
  have htc := hF.2.2.2.2
  have hP : va_P D vwCl [] s.heap := hP
  have hD : va_D A [] := hD
  have hR0 : va_P D vwCl [(a_this, .inr (9, [.ref a_this_chosen, .ref a_this_factorial, .ref a_this_catalan, .ref a_this_parted, .ref a_this_closed, .int f_this_now, .ref a_this_of, .ref a_this_buffer, .ref a_this_made, .ref a_this_stackOne, .ref a_this_stackOther, .ref a_this_stackLong, .ref a_this_left, .int f_this_entryMany, .ref a_this_entryFamily, .ref a_this_entryOf, .ref a_this_entryRank])), (a_this_buffer, .inl (cI, 60, .inl c_this_buffer)), (a_this_chosen, .inl (cJ, 3721, .inr (.inl c_this_chosen))), (a_this_of, .inl (cI, 4, .inl c_this_of))] s.heap := hR0
  have hR := hR0
  have hl : lv_has ls 9 [(0, .ref a_this)] := hl
  unfold fX10_subsetRank at h
  refine lv_aload_n hx hb dX10_subsetRank_0 rfl (lv_at hl 0 rfl) ?_
  refine va_get (D := D) (ci := 9) (v := .ref a_this_of) (C := RX10) (T := TX10) (N := 17) hx hb htc inX10 hown hV.1 hR 0 rfl rfl 6 (by decide) (htc _ w_4_4) (fun _ h9 => h9) rfl dX10_subsetRank_1 ?_
  refine lv_iconst (v := 0) hx hb dX10_subsetRank_4 (by decide) ?_
  refine va_iald hx hb hV.1 hR 3 0 rfl rfl (show vp_in (0 : Int32) 4 from (by decide : ¬ ((0 : Int32) < 0 ∨ 4 ≤ (0 : Int32).toNatClampNeg))) dX10_subsetRank_5 ?_
  refine W.eq (g2 := F0 m 6 ls [.int (c_this_of 0)]) rfl ?_
  refine lv_istore_n (lv' := [(1, .int (c_this_of 0)), (0, .ref a_this)]) hx hb dX10_subsetRank_6 rfl hl (by decide) rfl (fun ls hl => ?_)
  refine lv_aload_n hx hb dX10_subsetRank_7 rfl (lv_at hl 1 rfl) ?_
  refine va_get (D := D) (ci := 9) (v := .ref a_this_of) (C := RX10) (T := TX10) (N := 17) hx hb htc inX10 hown hV.1 hR 0 rfl rfl 6 (by decide) (htc _ w_4_4) (fun _ h9 => h9) rfl dX10_subsetRank_8 ?_
  refine lv_iconst (v := 1) hx hb dX10_subsetRank_11 (by decide) ?_
  refine va_iald hx hb hV.1 hR 3 0 rfl rfl (show vp_in (1 : Int32) 4 from (by decide : ¬ ((1 : Int32) < 0 ∨ 4 ≤ (1 : Int32).toNatClampNeg))) dX10_subsetRank_12 ?_
  refine W.eq (g2 := F0 m 13 ls [.int (c_this_of 1)]) rfl ?_
  refine lv_istore_n (lv' := [(2, .int (c_this_of 1)), (1, .int (c_this_of 0)), (0, .ref a_this)]) hx hb dX10_subsetRank_13 rfl hl (by decide) rfl (fun ls hl => ?_)
  refine lv_lconst (v := 0) hx hb dX10_subsetRank_14 (by decide) ?_
  refine lv_lstore_n (lv' := [(3, .long (0 : Int64)), (2, .int (c_this_of 1)), (1, .int (c_this_of 0)), (0, .ref a_this)]) hx hb dX10_subsetRank_15 rfl hl (by decide) rfl (fun ls hl => ?_)
  refine lv_iconst (v := 0) hx hb dX10_subsetRank_16 (by decide) ?_
  refine lv_istore (lv' := [(5, .int (0 : Int32)), (3, .long (0 : Int64)), (2, .int (c_this_of 1)), (1, .int (c_this_of 0)), (0, .ref a_this)]) hx hb dX10_subsetRank_17 hl (by decide) rfl (fun ls hl => ?_)
  refine lv_iconst (v := 0) hx hb dX10_subsetRank_19 (by decide) ?_
  refine lv_istore (lv' := [(6, .int (0 : Int32)), (5, .int (0 : Int32)), (3, .long (0 : Int64)), (2, .int (c_this_of 1)), (1, .int (c_this_of 0)), (0, .ref a_this)]) hx hb dX10_subsetRank_20 hl (by decide) rfl (fun ls hl => ?_)
  have L22 : ∀ (n22 : Nat) (b22_l3 : Int64) (b22_l5 : Int32) (b22_l6 : Int32), rk_it3 (fX10_subsetRank_L22 c_this_buffer c_this_chosen c_this_of) n22 b22_l3 b22_l5 b22_l6 = some r0 → ∀ (H : Heap) (locs : List Loc), va_P D vwCl [] H → va_D A [] → va_S A s.heap H locs → ∀ (ls : Array Slot), lv_has ls 9 [(0, .ref a_this), (1, .int (c_this_of 0)), (2, .int (c_this_of 1)), (3, .long b22_l3), (5, .int b22_l5), (6, .int b22_l6)] → W p l e rmX10_subsetRank s m args below meth c H locs 0 0 Q (F0 m 22 ls []) := by
    intro n22
    induction n22 with
    | zero => intro b22_l3 b22_l5 b22_l6 h; exact rk_no h
    | succ n22 ih22 =>
      intro b22_l3 b22_l5 b22_l6 h H locs hP hD hS ls hl
      have h : fX10_subsetRank_L22 c_this_buffer c_this_chosen c_this_of (rk_it3 (fX10_subsetRank_L22 c_this_buffer c_this_chosen c_this_of) n22) b22_l3 b22_l5 b22_l6 = some r0 := h
      unfold fX10_subsetRank_L22 at h
      have hR := rk_keep hR0 hn hS
      refine lv_iload hx hb dX10_subsetRank_22 (lv_at hl 5 rfl) ?_
      refine lv_iload_n hx hb dX10_subsetRank_24 rfl (lv_at hl 2 rfl) ?_
      refine lv_icmp_ge (tgt := 139) hx hb dX10_subsetRank_25 (by decide) (fun hc1 => ?_) (fun hc1 => ?_)
      · have h := rk_if hc1 h
        refine lv_lload_n hx hb dX10_subsetRank_139 rfl (lv_at hl 3 rfl) ?_
        exact hret b22_l3 _ _ _ _ h dX10_subsetRank_140 hP hD hS
      · have h := rk_nif hc1 h
        refine lv_aload_n hx hb dX10_subsetRank_28 rfl (lv_at hl 0 rfl) ?_
        refine va_get (D := D) (ci := 9) (v := .ref a_this_buffer) (C := RX10) (T := TX10) (N := 17) hx hb htc inX10 hown hV.1 hR 0 rfl rfl 7 (by decide) (htc _ w_4_5) (fun _ h9 => h9) rfl dX10_subsetRank_29 ?_
        refine lv_iload hx hb dX10_subsetRank_32 (lv_at hl 5 rfl) ?_
        obtain ⟨hg2, h⟩ := rk_gd h
        refine va_iald hx hb hV.1 hR 1 0 rfl rfl hg2 dX10_subsetRank_34 ?_
        refine lv_istore (lv' := [(7, .int (c_this_buffer b22_l6.toNatClampNeg)), (0, .ref a_this), (1, .int (c_this_of 0)), (2, .int (c_this_of 1)), (3, .long b22_l3), (5, .int b22_l5), (6, .int b22_l6)]) hx hb dX10_subsetRank_35 hl (by decide) rfl (fun ls hl => ?_)
        refine lv_aload_n hx hb dX10_subsetRank_37 rfl (lv_at hl 1 rfl) ?_
        refine va_get (D := D) (ci := 9) (v := .ref a_this_of) (C := RX10) (T := TX10) (N := 17) hx hb htc inX10 hown hV.1 hR 0 rfl rfl 6 (by decide) (htc _ w_4_4) (fun _ h9 => h9) rfl dX10_subsetRank_38 ?_
        refine lv_iconst (v := 2) hx hb dX10_subsetRank_41 (by decide) ?_
        refine va_iald hx hb hV.1 hR 3 0 rfl rfl (show vp_in (2 : Int32) 4 from (by decide : ¬ ((2 : Int32) < 0 ∨ 4 ≤ (2 : Int32).toNatClampNeg))) dX10_subsetRank_42 ?_
        refine W.eq (g2 := F0 m 43 ls [.int (c_this_of 2)]) rfl ?_
        have B133 : ∀ (b133_l3 : Int64) (b133_l5 : Int32), fX10_subsetRank_B133 b22_l6 (rk_it3 (fX10_subsetRank_L22 c_this_buffer c_this_chosen c_this_of) n22) b133_l3 b133_l5 = some r0 → ∀ (H : Heap) (locs : List Loc), va_P D vwCl [] H → va_D A [] → va_S A s.heap H locs → ∀ (ls : Array Slot), lv_has ls 9 [(0, .ref a_this), (1, .int (c_this_of 0)), (2, .int (c_this_of 1)), (3, .long b133_l3), (5, .int b133_l5), (6, .int b22_l6)] → W p l e rmX10_subsetRank s m args below meth c H locs 0 0 Q (F0 m 133 ls []) := by
          intro b133_l3 b133_l5 h H locs hP hD hS ls hl
          unfold fX10_subsetRank_B133 at h
          have hR := rk_keep hR0 hn hS
          refine lv_iinc (v := (b22_l6 + 1)) (lv' := [(6, .int (b22_l6 + 1)), (0, .ref a_this), (1, .int (c_this_of 0)), (2, .int (c_this_of 1)), (3, .long b133_l3), (5, .int b133_l5)]) hx hb dX10_subsetRank_133 hl (k := 5) rfl rfl (by decide) rfl (fun ls hl => ?_)
          refine lv_goto (tgt := 22) hx hb dX10_subsetRank_136 (by decide) ?_
          exact ih22 b133_l3 b133_l5 (b22_l6 + 1) h _ _ hP hD hS _ (lv_sub hl [1, 2, 3, 4, 5, 0] rfl)
        refine lv_if_ne (tgt := 91) hx hb dX10_subsetRank_43 (by decide) (fun hc3 => ?_) (fun hc3 => ?_)
        · have h := rk_if hc3 h
          refine lv_aload_n hx hb dX10_subsetRank_91 rfl (lv_at hl 1 rfl) ?_
          refine va_get (D := D) (ci := 9) (v := .ref a_this_of) (C := RX10) (T := TX10) (N := 17) hx hb htc inX10 hown hV.1 hR 0 rfl rfl 6 (by decide) (htc _ w_4_4) (fun _ h9 => h9) rfl dX10_subsetRank_92 ?_
          refine lv_iconst (v := 2) hx hb dX10_subsetRank_95 (by decide) ?_
          refine va_iald hx hb hV.1 hR 3 0 rfl rfl (show vp_in (2 : Int32) 4 from (by decide : ¬ ((2 : Int32) < 0 ∨ 4 ≤ (2 : Int32).toNatClampNeg))) dX10_subsetRank_96 ?_
          refine W.eq (g2 := F0 m 97 ls [.int (c_this_of 2)]) rfl ?_
          refine lv_iconst (v := 1) hx hb dX10_subsetRank_97 (by decide) ?_
          have B132 : ∀ (b132_t0 : Int64), fX10_subsetRank_B132 b22_l5 b22_l6 (rk_it3 (fX10_subsetRank_L22 c_this_buffer c_this_chosen c_this_of) n22) b132_t0 = some r0 → ∀ (H : Heap) (locs : List Loc), va_P D vwCl [] H → va_D A [] → va_S A s.heap H locs → ∀ (ls : Array Slot), lv_has ls 9 [(0, .ref a_this), (1, .int (c_this_of 0)), (2, .int (c_this_of 1)), (5, .int b22_l5), (6, .int b22_l6)] → W p l e rmX10_subsetRank s m args below meth c H locs 0 0 Q (F0 m 132 ls [.long b132_t0]) := by
            intro b132_t0 h H locs hP hD hS ls hl
            unfold fX10_subsetRank_B132 at h
            have hR := rk_keep hR0 hn hS
            refine lv_lstore_n (lv' := [(3, .long b132_t0), (0, .ref a_this), (1, .int (c_this_of 0)), (2, .int (c_this_of 1)), (5, .int b22_l5), (6, .int b22_l6)]) hx hb dX10_subsetRank_132 rfl hl (by decide) rfl (fun ls hl => ?_)
            exact B133 b132_t0 b22_l5 h _ _ hP hD hS _ (lv_sub hl [1, 2, 3, 0, 4, 5] rfl)
          refine lv_icmp_ne (tgt := 116) hx hb dX10_subsetRank_98 (by decide) (fun hc4 => ?_) (fun hc4 => ?_)
          · have h := rk_if hc4 h
            refine lv_aload_n hx hb dX10_subsetRank_116 rfl (lv_at hl 1 rfl) ?_
            refine lv_iload hx hb dX10_subsetRank_117 (lv_at hl 0 rfl) ?_
            refine lv_iconst (v := 1) hx hb dX10_subsetRank_119 (by decide) ?_
            refine lv_iadd hx hb dX10_subsetRank_120 ?_
            refine lv_iload hx hb dX10_subsetRank_121 (lv_at hl 6 rfl) ?_
            refine lv_iconst (v := 1) hx hb dX10_subsetRank_123 (by decide) ?_
            refine lv_iadd hx hb dX10_subsetRank_124 ?_
            obtain ⟨r_125, hc_125, h⟩ := rk_bd h
            refine rk_l (wr := []) (va_runV (C := RX10) (As := [.int ((c_this_buffer b22_l6.toNatClampNeg) + (1 : Int32)), .int (b22_l6 + (1 : Int32))]) (rest := []) hF (mtX10_choose l D cI cJ cO PL _ a_this a_this_chosen a_this_factorial a_this_catalan a_this_parted a_this_closed f_this_now a_this_of a_this_buffer a_this_made a_this_stackOne a_this_stackOther a_this_stackLong a_this_left f_this_entryMany a_this_entryFamily a_this_entryOf a_this_entryRank c_this_chosen ((c_this_buffer b22_l6.toNatClampNeg) + (1 : Int32)) (b22_l6 + (1 : Int32)) r_125 hc_125) (cwV 2 htc (rk_gV w_4_75 w_4_77 ws_39 w_1_7 w_4_78) rfl rfl rfl (by decide +kernel) ⟨(Nat.le_of_ble_eq_true rfl), (Nat.le_of_ble_eq_true rfl)⟩) (rk_preV (va_recv hV.1 hR (ci := 9) (q0 := 0) rfl rfl) (rk_preS hP hD hS hR hn hPL hnl hV [] [(false, 0), (false, 2)] rfl (by decide) rfl (by decide))) rfl rfl hl.1 rfl (lv_room (Nat.le_of_ble_eq_true rfl)) dX10_subsetRank_125 ⟨(Nat.le_of_ble_eq_true rfl), (Nat.le_of_ble_eq_true rfl)⟩) hP hD hS hA hR0 hn [] [] rfl rfl (by decide) (by decide) (fun H locs hP hD hS hR => ?_)
            have hP : va_P D vwCl [] H := hP
            have hD : va_D A [] := hD
            refine lv_lconst (v := 1) hx hb dX10_subsetRank_128 (by decide) ?_
            refine lv_lsub hx hb dX10_subsetRank_129 ?_
            refine lv_lload_n hx hb dX10_subsetRank_130 rfl (lv_at hl 4 rfl) ?_
            refine lv_lsub hx hb dX10_subsetRank_131 ?_
            exact B132 ((r_125 - (1 : Int64)) - b22_l3) h _ _ hP hD hS _ (lv_sub hl [1, 2, 3, 5, 6] rfl)
          · have h := rk_nnif hc4 h
            refine lv_lload_n hx hb dX10_subsetRank_101 rfl (lv_at hl 4 rfl) ?_
            refine lv_aload_n hx hb dX10_subsetRank_102 rfl (lv_at hl 1 rfl) ?_
            refine lv_iload hx hb dX10_subsetRank_103 (lv_at hl 0 rfl) ?_
            refine lv_iload hx hb dX10_subsetRank_105 (lv_at hl 6 rfl) ?_
            refine lv_iconst (v := 1) hx hb dX10_subsetRank_107 (by decide) ?_
            refine lv_iadd hx hb dX10_subsetRank_108 ?_
            obtain ⟨r_109, hc_109, h⟩ := rk_bd h
            refine rk_l (wr := []) (va_runV (C := RX10) (As := [.int (c_this_buffer b22_l6.toNatClampNeg), .int (b22_l6 + (1 : Int32))]) (rest := [.long b22_l3]) hF (mtX10_choose l D cI cJ cO PL _ a_this a_this_chosen a_this_factorial a_this_catalan a_this_parted a_this_closed f_this_now a_this_of a_this_buffer a_this_made a_this_stackOne a_this_stackOther a_this_stackLong a_this_left f_this_entryMany a_this_entryFamily a_this_entryOf a_this_entryRank c_this_chosen (c_this_buffer b22_l6.toNatClampNeg) (b22_l6 + (1 : Int32)) r_109 hc_109) (cwV 2 htc (rk_gV w_4_75 w_4_77 ws_39 w_1_7 w_4_78) rfl rfl rfl (by decide +kernel) ⟨(Nat.le_of_ble_eq_true rfl), (Nat.le_of_ble_eq_true rfl)⟩) (rk_preV (va_recv hV.1 hR (ci := 9) (q0 := 0) rfl rfl) (rk_preS hP hD hS hR hn hPL hnl hV [] [(false, 0), (false, 2)] rfl (by decide) rfl (by decide))) rfl rfl hl.1 rfl (lv_room (Nat.le_of_ble_eq_true rfl)) dX10_subsetRank_109 ⟨(Nat.le_of_ble_eq_true rfl), (Nat.le_of_ble_eq_true rfl)⟩) hP hD hS hA hR0 hn [] [] rfl rfl (by decide) (by decide) (fun H locs hP hD hS hR => ?_)
            have hP : va_P D vwCl [] H := hP
            have hD : va_D A [] := hD
            refine lv_ladd hx hb dX10_subsetRank_112 ?_
            refine lv_goto (tgt := 132) hx hb dX10_subsetRank_113 (by decide) ?_
            exact B132 (b22_l3 + r_109) h _ _ hP hD hS _ (lv_sub hl [1, 2, 3, 5, 6] rfl)
        · have h := rk_nnif hc3 h
          refine lv_iload hx hb dX10_subsetRank_46 (lv_at hl 5 rfl) ?_
          refine lv_istore (lv' := [(8, .int b22_l5), (7, .int (c_this_buffer b22_l6.toNatClampNeg)), (0, .ref a_this), (1, .int (c_this_of 0)), (2, .int (c_this_of 1)), (3, .long b22_l3), (5, .int b22_l5), (6, .int b22_l6)]) hx hb dX10_subsetRank_48 hl (by decide) rfl (fun ls hl => ?_)
          have L50 : ∀ (n50 : Nat) (b50_l3 : Int64) (b50_l8 : Int32), rk_it2 (fX10_subsetRank_L50 c_this_buffer c_this_chosen c_this_of b22_l6 (rk_it3 (fX10_subsetRank_L22 c_this_buffer c_this_chosen c_this_of) n22)) n50 b50_l3 b50_l8 = some r0 → ∀ (H : Heap) (locs : List Loc), va_P D vwCl [] H → va_D A [] → va_S A s.heap H locs → ∀ (ls : Array Slot), lv_has ls 9 [(0, .ref a_this), (1, .int (c_this_of 0)), (2, .int (c_this_of 1)), (3, .long b50_l3), (6, .int b22_l6), (7, .int (c_this_buffer b22_l6.toNatClampNeg)), (8, .int b50_l8)] → W p l e rmX10_subsetRank s m args below meth c H locs 0 0 Q (F0 m 50 ls []) := by
            intro n50
            induction n50 with
            | zero => intro b50_l3 b50_l8 h; exact rk_no h
            | succ n50 ih50 =>
              intro b50_l3 b50_l8 h H locs hP hD hS ls hl
              have h : fX10_subsetRank_L50 c_this_buffer c_this_chosen c_this_of b22_l6 (rk_it3 (fX10_subsetRank_L22 c_this_buffer c_this_chosen c_this_of) n22) (rk_it2 (fX10_subsetRank_L50 c_this_buffer c_this_chosen c_this_of b22_l6 (rk_it3 (fX10_subsetRank_L22 c_this_buffer c_this_chosen c_this_of) n22)) n50) b50_l3 b50_l8 = some r0 := h
              unfold fX10_subsetRank_L50 at h
              have hR := rk_keep hR0 hn hS
              refine lv_iload hx hb dX10_subsetRank_50 (lv_at hl 6 rfl) ?_
              refine lv_iload hx hb dX10_subsetRank_52 (lv_at hl 5 rfl) ?_
              refine lv_icmp_ge (tgt := 82) hx hb dX10_subsetRank_54 (by decide) (fun hc5 => ?_) (fun hc5 => ?_)
              · have h := rk_if hc5 h
                refine lv_iload hx hb dX10_subsetRank_82 (lv_at hl 5 rfl) ?_
                refine lv_iconst (v := 1) hx hb dX10_subsetRank_84 (by decide) ?_
                refine lv_iadd hx hb dX10_subsetRank_85 ?_
                refine lv_istore (lv' := [(5, .int ((c_this_buffer b22_l6.toNatClampNeg) + (1 : Int32))), (0, .ref a_this), (1, .int (c_this_of 0)), (2, .int (c_this_of 1)), (3, .long b50_l3), (6, .int b22_l6), (7, .int (c_this_buffer b22_l6.toNatClampNeg)), (8, .int b50_l8)]) hx hb dX10_subsetRank_86 hl (by decide) rfl (fun ls hl => ?_)
                refine lv_goto (tgt := 133) hx hb dX10_subsetRank_88 (by decide) ?_
                exact B133 b50_l3 ((c_this_buffer b22_l6.toNatClampNeg) + (1 : Int32)) h _ _ hP hD hS _ (lv_sub hl [1, 2, 3, 4, 0, 5] rfl)
              · have h := rk_nif hc5 h
                refine lv_lload_n hx hb dX10_subsetRank_57 rfl (lv_at hl 3 rfl) ?_
                refine lv_aload_n hx hb dX10_subsetRank_58 rfl (lv_at hl 0 rfl) ?_
                refine lv_iload_n hx hb dX10_subsetRank_59 rfl (lv_at hl 1 rfl) ?_
                refine lv_iconst (v := 1) hx hb dX10_subsetRank_60 (by decide) ?_
                refine lv_isub hx hb dX10_subsetRank_61 ?_
                refine lv_iload hx hb dX10_subsetRank_62 (lv_at hl 6 rfl) ?_
                refine lv_isub hx hb dX10_subsetRank_64 ?_
                refine lv_iload_n hx hb dX10_subsetRank_65 rfl (lv_at hl 2 rfl) ?_
                refine lv_iconst (v := 1) hx hb dX10_subsetRank_66 (by decide) ?_
                refine lv_isub hx hb dX10_subsetRank_67 ?_
                refine lv_iload hx hb dX10_subsetRank_68 (lv_at hl 4 rfl) ?_
                refine lv_isub hx hb dX10_subsetRank_70 ?_
                obtain ⟨r_71, hc_71, h⟩ := rk_bd h
                refine rk_l (wr := []) (va_runV (C := RX10) (As := [.int (((c_this_of 0) - (1 : Int32)) - b50_l8), .int (((c_this_of 1) - (1 : Int32)) - b22_l6)]) (rest := [.long b50_l3]) hF (mtX10_choose l D cI cJ cO PL _ a_this a_this_chosen a_this_factorial a_this_catalan a_this_parted a_this_closed f_this_now a_this_of a_this_buffer a_this_made a_this_stackOne a_this_stackOther a_this_stackLong a_this_left f_this_entryMany a_this_entryFamily a_this_entryOf a_this_entryRank c_this_chosen (((c_this_of 0) - (1 : Int32)) - b50_l8) (((c_this_of 1) - (1 : Int32)) - b22_l6) r_71 hc_71) (cwV 2 htc (rk_gV w_4_75 w_4_77 ws_39 w_1_7 w_4_78) rfl rfl rfl (by decide +kernel) ⟨(Nat.le_of_ble_eq_true rfl), (Nat.le_of_ble_eq_true rfl)⟩) (rk_preV (va_recv hV.1 hR (ci := 9) (q0 := 0) rfl rfl) (rk_preS hP hD hS hR hn hPL hnl hV [] [(false, 0), (false, 2)] rfl (by decide) rfl (by decide))) rfl rfl hl.1 rfl (lv_room (Nat.le_of_ble_eq_true rfl)) dX10_subsetRank_71 ⟨(Nat.le_of_ble_eq_true rfl), (Nat.le_of_ble_eq_true rfl)⟩) hP hD hS hA hR0 hn [] [] rfl rfl (by decide) (by decide) (fun H locs hP hD hS hR => ?_)
                have hP : va_P D vwCl [] H := hP
                have hD : va_D A [] := hD
                refine lv_ladd hx hb dX10_subsetRank_74 ?_
                refine lv_lstore_n (lv' := [(3, .long (b50_l3 + r_71)), (0, .ref a_this), (1, .int (c_this_of 0)), (2, .int (c_this_of 1)), (6, .int b22_l6), (7, .int (c_this_buffer b22_l6.toNatClampNeg)), (8, .int b50_l8)]) hx hb dX10_subsetRank_75 rfl hl (by decide) rfl (fun ls hl => ?_)
                refine lv_iinc (v := (b50_l8 + 1)) (lv' := [(8, .int (b50_l8 + 1)), (3, .long (b50_l3 + r_71)), (0, .ref a_this), (1, .int (c_this_of 0)), (2, .int (c_this_of 1)), (6, .int b22_l6), (7, .int (c_this_buffer b22_l6.toNatClampNeg))]) hx hb dX10_subsetRank_76 hl (k := 6) rfl rfl (by decide) rfl (fun ls hl => ?_)
                refine lv_goto (tgt := 50) hx hb dX10_subsetRank_79 (by decide) ?_
                exact ih50 (b50_l3 + r_71) (b50_l8 + 1) h _ _ hP hD hS _ (lv_sub hl [2, 3, 4, 1, 5, 6, 0] rfl)
          exact L50 FU b22_l3 b22_l5 h _ _ hP hD hS _ (lv_sub hl [2, 3, 4, 5, 7, 1, 0] rfl)
  exact L22 FU (0 : Int64) (0 : Int32) (0 : Int32) h _ _ hP hD hS _ (lv_sub hl [5, 4, 3, 2, 1, 0] rfl)
set_option maxHeartbeats 4000000 in
set_option maxRecDepth 100000 in
theorem mtX10_lessBehind (l : Launch) (D : va_G) (cI cJ cO : ClassId) (PL : va_W) (sz : Nat) (a_this : Nat) (a_this_chosen : Nat) (a_this_factorial : Nat) (a_this_catalan : Nat) (a_this_parted : Nat) (a_this_closed : Nat) (f_this_now : Int32) (a_this_of : Nat) (a_this_buffer : Nat) (a_this_made : Nat) (a_this_stackOne : Nat) (a_this_stackOther : Nat) (a_this_stackLong : Nat) (a_this_left : Nat) (f_this_entryMany : Int32) (a_this_entryFamily : Nat) (a_this_entryOf : Nat) (a_this_entryRank : Nat) (c_this_buffer : Nat → Int32) (c_this_of : Nat → Int32) (v_p1 : Int32) (r0 : Int32) (h : fX10_lessBehind c_this_buffer c_this_of v_p1 = some r0) : Met l yX10_lessBehind (rk_w yX10_lessBehind cX10_lessBehind 4 (some .int)) rmX10_lessBehind (va_Pc [.ref a_this, .int v_p1] (rk_B D (rk_TY cI cJ cO) [] [(a_this, .inr (9, [.ref a_this_chosen, .ref a_this_factorial, .ref a_this_catalan, .ref a_this_parted, .ref a_this_closed, .int f_this_now, .ref a_this_of, .ref a_this_buffer, .ref a_this_made, .ref a_this_stackOne, .ref a_this_stackOther, .ref a_this_stackLong, .ref a_this_left, .int f_this_entryMany, .ref a_this_entryFamily, .ref a_this_entryOf, .ref a_this_entryRank])), (a_this_buffer, .inl (cI, 60, .inl c_this_buffer)), (a_this_of, .inl (cI, 4, .inl c_this_of))] PL sz)) (rk_Qi r0 D [] [] sz) 0 0 (va_A [] sz) := by
  refine rk_meti h (fun x : Int32 => x) (fun x => []) (by decide) (Nat.le_of_ble_eq_true rfl) ?_
  intro p e s m args below meth c A ls Q hret hname hF hP hD hA hV hR0 hn hPL hnl hl h hS
  have hx := hF.1
  have hb := hF.2.1
  have hml := hF.2.2.1
  have hown : s.vm.findClass RX10 = some m.cls := hF.2.2.2.1
  have htc := hF.2.2.2.2
  have hP : va_P D vwCl [] s.heap := hP
  have hD : va_D A [] := hD
  have hR0 : va_P D vwCl [(a_this, .inr (9, [.ref a_this_chosen, .ref a_this_factorial, .ref a_this_catalan, .ref a_this_parted, .ref a_this_closed, .int f_this_now, .ref a_this_of, .ref a_this_buffer, .ref a_this_made, .ref a_this_stackOne, .ref a_this_stackOther, .ref a_this_stackLong, .ref a_this_left, .int f_this_entryMany, .ref a_this_entryFamily, .ref a_this_entryOf, .ref a_this_entryRank])), (a_this_buffer, .inl (cI, 60, .inl c_this_buffer)), (a_this_of, .inl (cI, 4, .inl c_this_of))] s.heap := hR0
  have hR := hR0
  have hl : lv_has ls 4 [(0, .ref a_this), (1, .int v_p1)] := hl
  unfold fX10_lessBehind at h
  refine lv_iconst (v := 0) hx hb dX10_lessBehind_0 (by decide) ?_
  refine lv_istore_n (lv' := [(2, .int (0 : Int32)), (0, .ref a_this), (1, .int v_p1)]) hx hb dX10_lessBehind_1 rfl hl (by decide) rfl (fun ls hl => ?_)
  refine lv_iload_n hx hb dX10_lessBehind_2 rfl (lv_at hl 2 rfl) ?_
  refine lv_iconst (v := 1) hx hb dX10_lessBehind_3 (by decide) ?_
  refine lv_iadd hx hb dX10_lessBehind_4 ?_
  refine lv_istore_n (lv' := [(3, .int (v_p1 + (1 : Int32))), (2, .int (0 : Int32)), (0, .ref a_this), (1, .int v_p1)]) hx hb dX10_lessBehind_5 rfl hl (by decide) rfl (fun ls hl => ?_)
  have L6 : ∀ (n6 : Nat) (b6_l2 : Int32) (b6_l3 : Int32), rk_it2 (fX10_lessBehind_L6 c_this_buffer c_this_of v_p1) n6 b6_l2 b6_l3 = some r0 → ∀ (H : Heap) (locs : List Loc), va_P D vwCl [] H → va_D A [] → va_S A s.heap H locs → ∀ (ls : Array Slot), lv_has ls 4 [(0, .ref a_this), (1, .int v_p1), (2, .int b6_l2), (3, .int b6_l3)] → W p l e rmX10_lessBehind s m args below meth c H locs 0 0 Q (F0 m 6 ls []) := by
    intro n6
    induction n6 with
    | zero => intro b6_l2 b6_l3 h; exact rk_no h
    | succ n6 ih6 =>
      intro b6_l2 b6_l3 h H locs hP hD hS ls hl
      have h : fX10_lessBehind_L6 c_this_buffer c_this_of v_p1 (rk_it2 (fX10_lessBehind_L6 c_this_buffer c_this_of v_p1) n6) b6_l2 b6_l3 = some r0 := h
      unfold fX10_lessBehind_L6 at h
      have hR := rk_keep hR0 hn hS
      refine lv_iload_n hx hb dX10_lessBehind_6 rfl (lv_at hl 3 rfl) ?_
      refine lv_aload_n hx hb dX10_lessBehind_7 rfl (lv_at hl 0 rfl) ?_
      refine va_get (D := D) (ci := 9) (v := .ref a_this_of) (C := RX10) (T := TX10) (N := 17) hx hb htc inX10 hown hV.1 hR 0 rfl rfl 6 (by decide) (htc _ w_4_4) (fun _ h9 => h9) rfl dX10_lessBehind_8 ?_
      refine lv_iconst (v := 0) hx hb dX10_lessBehind_11 (by decide) ?_
      refine va_iald hx hb hV.1 hR 2 0 rfl rfl (show vp_in (0 : Int32) 4 from (by decide : ¬ ((0 : Int32) < 0 ∨ 4 ≤ (0 : Int32).toNatClampNeg))) dX10_lessBehind_12 ?_
      refine W.eq (g2 := F0 m 13 ls [.int (c_this_of 0), .int b6_l3]) rfl ?_
      refine lv_icmp_ge (tgt := 45) hx hb dX10_lessBehind_13 (by decide) (fun hc1 => ?_) (fun hc1 => ?_)
      · have h := rk_if hc1 h
        refine lv_iload_n hx hb dX10_lessBehind_45 rfl (lv_at hl 2 rfl) ?_
        exact hret b6_l2 _ _ _ _ h dX10_lessBehind_46 hP hD hS
      · have h := rk_nif hc1 h
        refine lv_iload_n hx hb dX10_lessBehind_16 rfl (lv_at hl 2 rfl) ?_
        refine lv_aload_n hx hb dX10_lessBehind_17 rfl (lv_at hl 0 rfl) ?_
        refine va_get (D := D) (ci := 9) (v := .ref a_this_buffer) (C := RX10) (T := TX10) (N := 17) hx hb htc inX10 hown hV.1 hR 0 rfl rfl 7 (by decide) (htc _ w_4_5) (fun _ h9 => h9) rfl dX10_lessBehind_18 ?_
        refine lv_iload_n hx hb dX10_lessBehind_21 rfl (lv_at hl 3 rfl) ?_
        obtain ⟨hg2, h⟩ := rk_gd h
        refine va_iald hx hb hV.1 hR 1 0 rfl rfl hg2 dX10_lessBehind_22 ?_
        refine lv_aload_n hx hb dX10_lessBehind_23 rfl (lv_at hl 0 rfl) ?_
        refine va_get (D := D) (ci := 9) (v := .ref a_this_buffer) (C := RX10) (T := TX10) (N := 17) hx hb htc inX10 hown hV.1 hR 0 rfl rfl 7 (by decide) (htc _ w_4_5) (fun _ h9 => h9) rfl dX10_lessBehind_24 ?_
        refine lv_iload_n hx hb dX10_lessBehind_27 rfl (lv_at hl 1 rfl) ?_
        obtain ⟨hg3, h⟩ := rk_gd h
        refine va_iald hx hb hV.1 hR 1 0 rfl rfl hg3 dX10_lessBehind_28 ?_
        have B37 : ∀ (b37_t1 : Int32), fX10_lessBehind_B37 b6_l2 b6_l3 (rk_it2 (fX10_lessBehind_L6 c_this_buffer c_this_of v_p1) n6) b37_t1 = some r0 → ∀ (H : Heap) (locs : List Loc), va_P D vwCl [] H → va_D A [] → va_S A s.heap H locs → ∀ (ls : Array Slot), lv_has ls 4 [(0, .ref a_this), (1, .int v_p1), (3, .int b6_l3)] → W p l e rmX10_lessBehind s m args below meth c H locs 0 0 Q (F0 m 37 ls [.int b37_t1, .int b6_l2]) := by
          intro b37_t1 h H locs hP hD hS ls hl
          unfold fX10_lessBehind_B37 at h
          have hR := rk_keep hR0 hn hS
          refine lv_iadd hx hb dX10_lessBehind_37 ?_
          refine lv_istore_n (lv' := [(2, .int (b6_l2 + b37_t1)), (0, .ref a_this), (1, .int v_p1), (3, .int b6_l3)]) hx hb dX10_lessBehind_38 rfl hl (by decide) rfl (fun ls hl => ?_)
          refine lv_iinc (v := (b6_l3 + 1)) (lv' := [(3, .int (b6_l3 + 1)), (2, .int (b6_l2 + b37_t1)), (0, .ref a_this), (1, .int v_p1)]) hx hb dX10_lessBehind_39 hl (k := 3) rfl rfl (by decide) rfl (fun ls hl => ?_)
          refine lv_goto (tgt := 6) hx hb dX10_lessBehind_42 (by decide) ?_
          exact ih6 (b6_l2 + b37_t1) (b6_l3 + 1) h _ _ hP hD hS _ (lv_sub hl [2, 3, 1, 0] rfl)
        refine lv_icmp_ge (tgt := 36) hx hb dX10_lessBehind_29 (by decide) (fun hc4 => ?_) (fun hc4 => ?_)
        · have h := rk_if hc4 h
          refine lv_iconst (v := 0) hx hb dX10_lessBehind_36 (by decide) ?_
          exact B37 (0 : Int32) h _ _ hP hD hS _ (lv_sub hl [0, 1, 3] rfl)
        · have h := rk_nif hc4 h
          refine lv_iconst (v := 1) hx hb dX10_lessBehind_32 (by decide) ?_
          refine lv_goto (tgt := 37) hx hb dX10_lessBehind_33 (by decide) ?_
          exact B37 (1 : Int32) h _ _ hP hD hS _ (lv_sub hl [0, 1, 3] rfl)
  exact L6 FU (0 : Int32) (v_p1 + (1 : Int32)) h _ _ hP hD hS _ (lv_sub hl [2, 3, 1, 0] rfl)
set_option maxHeartbeats 4000000 in
set_option maxRecDepth 100000 in
theorem mtX10_placeAmong (l : Launch) (D : va_G) (cI cJ cO : ClassId) (PL : va_W) (sz : Nat) (a_this : Nat) (a_this_chosen : Nat) (a_this_factorial : Nat) (a_this_catalan : Nat) (a_this_parted : Nat) (a_this_closed : Nat) (f_this_now : Int32) (a_this_of : Nat) (a_this_buffer : Nat) (a_this_made : Nat) (a_this_stackOne : Nat) (a_this_stackOther : Nat) (a_this_stackLong : Nat) (a_this_left : Nat) (f_this_entryMany : Int32) (a_this_entryFamily : Nat) (a_this_entryOf : Nat) (a_this_entryRank : Nat) (c_this_buffer : Nat → Int32) (v_p1 : Int32) (r0 : Int32) (h : fX10_placeAmong c_this_buffer v_p1 = some r0) : Met l yX10_placeAmong (rk_w yX10_placeAmong cX10_placeAmong 4 (some .int)) rmX10_placeAmong (va_Pc [.ref a_this, .int v_p1] (rk_B D (rk_TY cI cJ cO) [] [(a_this, .inr (9, [.ref a_this_chosen, .ref a_this_factorial, .ref a_this_catalan, .ref a_this_parted, .ref a_this_closed, .int f_this_now, .ref a_this_of, .ref a_this_buffer, .ref a_this_made, .ref a_this_stackOne, .ref a_this_stackOther, .ref a_this_stackLong, .ref a_this_left, .int f_this_entryMany, .ref a_this_entryFamily, .ref a_this_entryOf, .ref a_this_entryRank])), (a_this_buffer, .inl (cI, 60, .inl c_this_buffer))] PL sz)) (rk_Qi r0 D [] [] sz) 0 0 (va_A [] sz) := by
  refine rk_meti h (fun x : Int32 => x) (fun x => []) (by decide) (Nat.le_of_ble_eq_true rfl) ?_
  intro p e s m args below meth c A ls Q hret hname hF hP hD hA hV hR0 hn hPL hnl hl h hS
  have hx := hF.1
  have hb := hF.2.1
  have hml := hF.2.2.1
  have hown : s.vm.findClass RX10 = some m.cls := hF.2.2.2.1
  have htc := hF.2.2.2.2
  have hP : va_P D vwCl [] s.heap := hP
  have hD : va_D A [] := hD
  have hR0 : va_P D vwCl [(a_this, .inr (9, [.ref a_this_chosen, .ref a_this_factorial, .ref a_this_catalan, .ref a_this_parted, .ref a_this_closed, .int f_this_now, .ref a_this_of, .ref a_this_buffer, .ref a_this_made, .ref a_this_stackOne, .ref a_this_stackOther, .ref a_this_stackLong, .ref a_this_left, .int f_this_entryMany, .ref a_this_entryFamily, .ref a_this_entryOf, .ref a_this_entryRank])), (a_this_buffer, .inl (cI, 60, .inl c_this_buffer))] s.heap := hR0
  have hR := hR0
  have hl : lv_has ls 4 [(0, .ref a_this), (1, .int v_p1)] := hl
  unfold fX10_placeAmong at h
  refine lv_iconst (v := 0) hx hb dX10_placeAmong_0 (by decide) ?_
  refine lv_istore_n (lv' := [(2, .int (0 : Int32)), (0, .ref a_this), (1, .int v_p1)]) hx hb dX10_placeAmong_1 rfl hl (by decide) rfl (fun ls hl => ?_)
  refine lv_iconst (v := 0) hx hb dX10_placeAmong_2 (by decide) ?_
  refine lv_istore_n (lv' := [(3, .int (0 : Int32)), (2, .int (0 : Int32)), (0, .ref a_this), (1, .int v_p1)]) hx hb dX10_placeAmong_3 rfl hl (by decide) rfl (fun ls hl => ?_)
  have L4 : ∀ (n4 : Nat) (b4_l2 : Int32) (b4_l3 : Int32), rk_it2 (fX10_placeAmong_L4 c_this_buffer v_p1) n4 b4_l2 b4_l3 = some r0 → ∀ (H : Heap) (locs : List Loc), va_P D vwCl [] H → va_D A [] → va_S A s.heap H locs → ∀ (ls : Array Slot), lv_has ls 4 [(0, .ref a_this), (1, .int v_p1), (2, .int b4_l2), (3, .int b4_l3)] → W p l e rmX10_placeAmong s m args below meth c H locs 0 0 Q (F0 m 4 ls []) := by
    intro n4
    induction n4 with
    | zero => intro b4_l2 b4_l3 h; exact rk_no h
    | succ n4 ih4 =>
      intro b4_l2 b4_l3 h H locs hP hD hS ls hl
      have h : fX10_placeAmong_L4 c_this_buffer v_p1 (rk_it2 (fX10_placeAmong_L4 c_this_buffer v_p1) n4) b4_l2 b4_l3 = some r0 := h
      unfold fX10_placeAmong_L4 at h
      have hR := rk_keep hR0 hn hS
      refine lv_aload_n hx hb dX10_placeAmong_4 rfl (lv_at hl 0 rfl) ?_
      refine va_get (D := D) (ci := 9) (v := .ref a_this_buffer) (C := RX10) (T := TX10) (N := 17) hx hb htc inX10 hown hV.1 hR 0 rfl rfl 7 (by decide) (htc _ w_4_5) (fun _ h9 => h9) rfl dX10_placeAmong_5 ?_
      refine lv_iload_n hx hb dX10_placeAmong_8 rfl (lv_at hl 3 rfl) ?_
      obtain ⟨hg1, h⟩ := rk_gd h
      refine va_iald hx hb hV.1 hR 1 0 rfl rfl hg1 dX10_placeAmong_9 ?_
      refine lv_iload_n hx hb dX10_placeAmong_10 rfl (lv_at hl 1 rfl) ?_
      refine lv_icmp_eq (tgt := 38) hx hb dX10_placeAmong_11 (by decide) (fun hc2 => ?_) (fun hc2 => ?_)
      · have h := rk_if hc2 h
        refine lv_iload_n hx hb dX10_placeAmong_38 rfl (lv_at hl 2 rfl) ?_
        exact hret b4_l2 _ _ _ _ h dX10_placeAmong_39 hP hD hS
      · have h := rk_nif hc2 h
        refine lv_iload_n hx hb dX10_placeAmong_14 rfl (lv_at hl 2 rfl) ?_
        refine lv_aload_n hx hb dX10_placeAmong_15 rfl (lv_at hl 0 rfl) ?_
        refine va_get (D := D) (ci := 9) (v := .ref a_this_buffer) (C := RX10) (T := TX10) (N := 17) hx hb htc inX10 hown hV.1 hR 0 rfl rfl 7 (by decide) (htc _ w_4_5) (fun _ h9 => h9) rfl dX10_placeAmong_16 ?_
        refine lv_iload_n hx hb dX10_placeAmong_19 rfl (lv_at hl 3 rfl) ?_
        refine va_iald hx hb hV.1 hR 1 0 rfl rfl hg1 dX10_placeAmong_20 ?_
        refine lv_iload_n hx hb dX10_placeAmong_21 rfl (lv_at hl 1 rfl) ?_
        have B30 : ∀ (b30_t1 : Int32), fX10_placeAmong_B30 b4_l2 b4_l3 (rk_it2 (fX10_placeAmong_L4 c_this_buffer v_p1) n4) b30_t1 = some r0 → ∀ (H : Heap) (locs : List Loc), va_P D vwCl [] H → va_D A [] → va_S A s.heap H locs → ∀ (ls : Array Slot), lv_has ls 4 [(0, .ref a_this), (1, .int v_p1), (3, .int b4_l3)] → W p l e rmX10_placeAmong s m args below meth c H locs 0 0 Q (F0 m 30 ls [.int b30_t1, .int b4_l2]) := by
          intro b30_t1 h H locs hP hD hS ls hl
          unfold fX10_placeAmong_B30 at h
          have hR := rk_keep hR0 hn hS
          refine lv_iadd hx hb dX10_placeAmong_30 ?_
          refine lv_istore_n (lv' := [(2, .int (b4_l2 + b30_t1)), (0, .ref a_this), (1, .int v_p1), (3, .int b4_l3)]) hx hb dX10_placeAmong_31 rfl hl (by decide) rfl (fun ls hl => ?_)
          refine lv_iinc (v := (b4_l3 + 1)) (lv' := [(3, .int (b4_l3 + 1)), (2, .int (b4_l2 + b30_t1)), (0, .ref a_this), (1, .int v_p1)]) hx hb dX10_placeAmong_32 hl (k := 3) rfl rfl (by decide) rfl (fun ls hl => ?_)
          refine lv_goto (tgt := 4) hx hb dX10_placeAmong_35 (by decide) ?_
          exact ih4 (b4_l2 + b30_t1) (b4_l3 + 1) h _ _ hP hD hS _ (lv_sub hl [2, 3, 1, 0] rfl)
        refine lv_icmp_ge (tgt := 29) hx hb dX10_placeAmong_22 (by decide) (fun hc3 => ?_) (fun hc3 => ?_)
        · have h := rk_if hc3 h
          refine lv_iconst (v := 0) hx hb dX10_placeAmong_29 (by decide) ?_
          exact B30 (0 : Int32) h _ _ hP hD hS _ (lv_sub hl [0, 1, 3] rfl)
        · have h := rk_nif hc3 h
          refine lv_iconst (v := 1) hx hb dX10_placeAmong_25 (by decide) ?_
          refine lv_goto (tgt := 30) hx hb dX10_placeAmong_26 (by decide) ?_
          exact B30 (1 : Int32) h _ _ hP hD hS _ (lv_sub hl [0, 1, 3] rfl)
  exact L4 FU (0 : Int32) (0 : Int32) h _ _ hP hD hS _ (lv_sub hl [2, 3, 1, 0] rfl)
set_option maxHeartbeats 4000000 in
set_option maxRecDepth 100000 in
theorem mtX10_permutationRank (l : Launch) (D : va_G) (cI cJ cO : ClassId) (PL : va_W) (sz : Nat) (a_this : Nat) (a_this_chosen : Nat) (a_this_factorial : Nat) (a_this_catalan : Nat) (a_this_parted : Nat) (a_this_closed : Nat) (f_this_now : Int32) (a_this_of : Nat) (a_this_buffer : Nat) (a_this_made : Nat) (a_this_stackOne : Nat) (a_this_stackOther : Nat) (a_this_stackLong : Nat) (a_this_left : Nat) (f_this_entryMany : Int32) (a_this_entryFamily : Nat) (a_this_entryOf : Nat) (a_this_entryRank : Nat) (c_this_buffer : Nat → Int32) (c_this_factorial : Nat → Int64) (c_this_of : Nat → Int32) (r0 : Int64) (h : fX10_permutationRank c_this_buffer c_this_factorial c_this_of = some r0) : Met l yX10_permutationRank (rk_w yX10_permutationRank cX10_permutationRank 5 (some .long)) rmX10_permutationRank (va_Pc [.ref a_this] (rk_B D (rk_TY cI cJ cO) [] [(a_this, .inr (9, [.ref a_this_chosen, .ref a_this_factorial, .ref a_this_catalan, .ref a_this_parted, .ref a_this_closed, .int f_this_now, .ref a_this_of, .ref a_this_buffer, .ref a_this_made, .ref a_this_stackOne, .ref a_this_stackOther, .ref a_this_stackLong, .ref a_this_left, .int f_this_entryMany, .ref a_this_entryFamily, .ref a_this_entryOf, .ref a_this_entryRank])), (a_this_buffer, .inl (cI, 60, .inl c_this_buffer)), (a_this_factorial, .inl (cJ, 21, .inr (.inl c_this_factorial))), (a_this_of, .inl (cI, 4, .inl c_this_of))] PL sz)) (rk_Ql r0 D [] [] sz) 0 0 (va_A [] sz) := by
  refine rk_metl h (fun x : Int64 => x) (fun x => []) (by decide) (Nat.le_of_ble_eq_true rfl) ?_
  intro p e s m args below meth c A ls Q hret hname hF hP hD hA hV hR0 hn hPL hnl hl h hS
  have hx := hF.1
  have hb := hF.2.1
  have hml := hF.2.2.1
  have hown : s.vm.findClass RX10 = some m.cls := hF.2.2.2.1
  have htc := hF.2.2.2.2
  have hP : va_P D vwCl [] s.heap := hP
  have hD : va_D A [] := hD
  have hR0 : va_P D vwCl [(a_this, .inr (9, [.ref a_this_chosen, .ref a_this_factorial, .ref a_this_catalan, .ref a_this_parted, .ref a_this_closed, .int f_this_now, .ref a_this_of, .ref a_this_buffer, .ref a_this_made, .ref a_this_stackOne, .ref a_this_stackOther, .ref a_this_stackLong, .ref a_this_left, .int f_this_entryMany, .ref a_this_entryFamily, .ref a_this_entryOf, .ref a_this_entryRank])), (a_this_buffer, .inl (cI, 60, .inl c_this_buffer)), (a_this_factorial, .inl (cJ, 21, .inr (.inl c_this_factorial))), (a_this_of, .inl (cI, 4, .inl c_this_of))] s.heap := hR0
  have hR := hR0
  have hl : lv_has ls 5 [(0, .ref a_this)] := hl
  unfold fX10_permutationRank at h
  refine lv_lconst (v := 0) hx hb dX10_permutationRank_0 (by decide) ?_
  refine lv_lstore_n (lv' := [(1, .long (0 : Int64)), (0, .ref a_this)]) hx hb dX10_permutationRank_1 rfl hl (by decide) rfl (fun ls hl => ?_)
  refine lv_iconst (v := 1) hx hb dX10_permutationRank_2 (by decide) ?_
  refine lv_istore_n (lv' := [(3, .int (1 : Int32)), (1, .long (0 : Int64)), (0, .ref a_this)]) hx hb dX10_permutationRank_3 rfl hl (by decide) rfl (fun ls hl => ?_)
  have L4 : ∀ (n4 : Nat) (b4_l1 : Int64) (b4_l3 : Int32), rk_it2 (fX10_permutationRank_L4 c_this_buffer c_this_factorial c_this_of) n4 b4_l1 b4_l3 = some r0 → ∀ (H : Heap) (locs : List Loc), va_P D vwCl [] H → va_D A [] → va_S A s.heap H locs → ∀ (ls : Array Slot), lv_has ls 5 [(0, .ref a_this), (1, .long b4_l1), (3, .int b4_l3)] → W p l e rmX10_permutationRank s m args below meth c H locs 0 0 Q (F0 m 4 ls []) := by
    intro n4
    induction n4 with
    | zero => intro b4_l1 b4_l3 h; exact rk_no h
    | succ n4 ih4 =>
      intro b4_l1 b4_l3 h H locs hP hD hS ls hl
      have h : fX10_permutationRank_L4 c_this_buffer c_this_factorial c_this_of (rk_it2 (fX10_permutationRank_L4 c_this_buffer c_this_factorial c_this_of) n4) b4_l1 b4_l3 = some r0 := h
      unfold fX10_permutationRank_L4 at h
      have hR := rk_keep hR0 hn hS
      refine lv_iload_n hx hb dX10_permutationRank_4 rfl (lv_at hl 2 rfl) ?_
      refine lv_aload_n hx hb dX10_permutationRank_5 rfl (lv_at hl 0 rfl) ?_
      refine va_get (D := D) (ci := 9) (v := .ref a_this_of) (C := RX10) (T := TX10) (N := 17) hx hb htc inX10 hown hV.1 hR 0 rfl rfl 6 (by decide) (htc _ w_4_4) (fun _ h9 => h9) rfl dX10_permutationRank_6 ?_
      refine lv_iconst (v := 0) hx hb dX10_permutationRank_9 (by decide) ?_
      refine va_iald hx hb hV.1 hR 3 0 rfl rfl (show vp_in (0 : Int32) 4 from (by decide : ¬ ((0 : Int32) < 0 ∨ 4 ≤ (0 : Int32).toNatClampNeg))) dX10_permutationRank_10 ?_
      refine W.eq (g2 := F0 m 11 ls [.int (c_this_of 0), .int b4_l3]) rfl ?_
      have B65 : fX10_permutationRank_B65 c_this_buffer c_this_factorial c_this_of b4_l1 = some r0 → ∀ (H : Heap) (locs : List Loc), va_P D vwCl [] H → va_D A [] → va_S A s.heap H locs → ∀ (ls : Array Slot), lv_has ls 5 [(0, .ref a_this), (1, .long b4_l1)] → W p l e rmX10_permutationRank s m args below meth c H locs 0 0 Q (F0 m 65 ls []) := by
        intro  h H locs hP hD hS ls hl
        unfold fX10_permutationRank_B65 at h
        have hR := rk_keep hR0 hn hS
        refine lv_iconst (v := 0) hx hb dX10_permutationRank_65 (by decide) ?_
        refine lv_istore_n (lv' := [(3, .int (0 : Int32)), (0, .ref a_this), (1, .long b4_l1)]) hx hb dX10_permutationRank_66 rfl hl (by decide) rfl (fun ls hl => ?_)
        have L67 : ∀ (n67 : Nat) (b67_l1 : Int64) (b67_l3 : Int32), rk_it2 (fX10_permutationRank_L67 c_this_buffer c_this_factorial c_this_of) n67 b67_l1 b67_l3 = some r0 → ∀ (H : Heap) (locs : List Loc), va_P D vwCl [] H → va_D A [] → va_S A s.heap H locs → ∀ (ls : Array Slot), lv_has ls 5 [(0, .ref a_this), (1, .long b67_l1), (3, .int b67_l3)] → W p l e rmX10_permutationRank s m args below meth c H locs 0 0 Q (F0 m 67 ls []) := by
          intro n67
          induction n67 with
          | zero => intro b67_l1 b67_l3 h; exact rk_no h
          | succ n67 ih67 =>
            intro b67_l1 b67_l3 h H locs hP hD hS ls hl
            have h : fX10_permutationRank_L67 c_this_buffer c_this_factorial c_this_of (rk_it2 (fX10_permutationRank_L67 c_this_buffer c_this_factorial c_this_of) n67) b67_l1 b67_l3 = some r0 := h
            unfold fX10_permutationRank_L67 at h
            have hR := rk_keep hR0 hn hS
            refine lv_iload_n hx hb dX10_permutationRank_67 rfl (lv_at hl 2 rfl) ?_
            refine lv_aload_n hx hb dX10_permutationRank_68 rfl (lv_at hl 0 rfl) ?_
            refine va_get (D := D) (ci := 9) (v := .ref a_this_of) (C := RX10) (T := TX10) (N := 17) hx hb htc inX10 hown hV.1 hR 0 rfl rfl 6 (by decide) (htc _ w_4_4) (fun _ h9 => h9) rfl dX10_permutationRank_69 ?_
            refine lv_iconst (v := 0) hx hb dX10_permutationRank_72 (by decide) ?_
            refine va_iald hx hb hV.1 hR 3 0 rfl rfl (show vp_in (0 : Int32) 4 from (by decide : ¬ ((0 : Int32) < 0 ∨ 4 ≤ (0 : Int32).toNatClampNeg))) dX10_permutationRank_73 ?_
            refine W.eq (g2 := F0 m 74 ls [.int (c_this_of 0), .int b67_l3]) rfl ?_
            refine lv_icmp_ge (tgt := 117) hx hb dX10_permutationRank_74 (by decide) (fun hc1 => ?_) (fun hc1 => ?_)
            · have h := rk_if hc1 h
              refine lv_lload_n hx hb dX10_permutationRank_117 rfl (lv_at hl 1 rfl) ?_
              exact hret b67_l1 _ _ _ _ h dX10_permutationRank_118 hP hD hS
            · have h := rk_nif hc1 h
              refine lv_aload_n hx hb dX10_permutationRank_77 rfl (lv_at hl 0 rfl) ?_
              refine va_get (D := D) (ci := 9) (v := .ref a_this_of) (C := RX10) (T := TX10) (N := 17) hx hb htc inX10 hown hV.1 hR 0 rfl rfl 6 (by decide) (htc _ w_4_4) (fun _ h9 => h9) rfl dX10_permutationRank_78 ?_
              refine lv_iconst (v := 1) hx hb dX10_permutationRank_81 (by decide) ?_
              refine va_iald hx hb hV.1 hR 3 0 rfl rfl (show vp_in (1 : Int32) 4 from (by decide : ¬ ((1 : Int32) < 0 ∨ 4 ≤ (1 : Int32).toNatClampNeg))) dX10_permutationRank_82 ?_
              refine W.eq (g2 := F0 m 83 ls [.int (c_this_of 1)]) rfl ?_
              refine lv_if_ne (tgt := 117) hx hb dX10_permutationRank_83 (by decide) (fun hc2 => ?_) (fun hc2 => ?_)
              · have h := rk_if hc2 h
                refine lv_lload_n hx hb dX10_permutationRank_117 rfl (lv_at hl 1 rfl) ?_
                exact hret b67_l1 _ _ _ _ h dX10_permutationRank_118 hP hD hS
              · have h := rk_nnif hc2 h
                refine lv_lload_n hx hb dX10_permutationRank_86 rfl (lv_at hl 1 rfl) ?_
                refine lv_aload_n hx hb dX10_permutationRank_87 rfl (lv_at hl 0 rfl) ?_
                refine lv_iload_n hx hb dX10_permutationRank_88 rfl (lv_at hl 2 rfl) ?_
                obtain ⟨r_89, hc_89, h⟩ := rk_bd h
                refine rk_i (wr := []) (va_runV (C := RX10) (As := [.int b67_l3]) (rest := [.long b67_l1]) hF (mtX10_lessBehind l D cI cJ cO PL _ a_this a_this_chosen a_this_factorial a_this_catalan a_this_parted a_this_closed f_this_now a_this_of a_this_buffer a_this_made a_this_stackOne a_this_stackOther a_this_stackLong a_this_left f_this_entryMany a_this_entryFamily a_this_entryOf a_this_entryRank c_this_buffer c_this_of b67_l3 r_89 hc_89) (cwV 1 htc (rk_gV w_4_237 w_4_239 ws_65 w_1_7 w_5_0) rfl rfl rfl (by decide +kernel) ⟨(Nat.le_of_ble_eq_true rfl), (Nat.le_of_ble_eq_true rfl)⟩) (rk_preV (va_recv hV.1 hR (ci := 9) (q0 := 0) rfl rfl) (rk_preS hP hD hS hR hn hPL hnl hV [] [(false, 0), (false, 1), (false, 3)] rfl (by decide) rfl (by decide))) rfl rfl hl.1 rfl (lv_room (Nat.le_of_ble_eq_true rfl)) dX10_permutationRank_89 ⟨(Nat.le_of_ble_eq_true rfl), (Nat.le_of_ble_eq_true rfl)⟩) hP hD hS hA hR0 hn [] [] rfl rfl (by decide) (by decide) (fun H locs hP hD hS hR => ?_)
                have hP : va_P D vwCl [] H := hP
                have hD : va_D A [] := hD
                refine lv_i2l hx hb dX10_permutationRank_92 rfl ?_
                refine lv_aload_n hx hb dX10_permutationRank_93 rfl (lv_at hl 0 rfl) ?_
                refine va_get (D := D) (ci := 9) (v := .ref a_this_factorial) (C := RX10) (T := TX10) (N := 17) hx hb htc inX10 hown hV.1 hR 0 rfl rfl 1 (by decide) (htc _ w_3_239) (fun _ h9 => h9) rfl dX10_permutationRank_94 ?_
                refine lv_aload_n hx hb dX10_permutationRank_97 rfl (lv_at hl 0 rfl) ?_
                refine va_get (D := D) (ci := 9) (v := .ref a_this_of) (C := RX10) (T := TX10) (N := 17) hx hb htc inX10 hown hV.1 hR 0 rfl rfl 6 (by decide) (htc _ w_4_4) (fun _ h9 => h9) rfl dX10_permutationRank_98 ?_
                refine lv_iconst (v := 0) hx hb dX10_permutationRank_101 (by decide) ?_
                refine va_iald hx hb hV.1 hR 3 0 rfl rfl (show vp_in (0 : Int32) 4 from (by decide : ¬ ((0 : Int32) < 0 ∨ 4 ≤ (0 : Int32).toNatClampNeg))) dX10_permutationRank_102 ?_
                refine W.eq (g2 := F0 m 103 ls [.int (c_this_of 0), .ref a_this_factorial, .long r_89.toInt64, .long b67_l1]) rfl ?_
                refine lv_iconst (v := 1) hx hb dX10_permutationRank_103 (by decide) ?_
                refine lv_isub hx hb dX10_permutationRank_104 ?_
                refine lv_iload_n hx hb dX10_permutationRank_105 rfl (lv_at hl 2 rfl) ?_
                refine lv_isub hx hb dX10_permutationRank_106 ?_
                obtain ⟨hg3, h⟩ := rk_gd h
                refine va_lald hx hb hV.1 hR 2 1 rfl rfl hg3 dX10_permutationRank_107 ?_
                refine lv_lmul hx hb dX10_permutationRank_108 ?_
                refine lv_ladd hx hb dX10_permutationRank_109 ?_
                refine lv_lstore_n (lv' := [(1, .long (b67_l1 + (r_89.toInt64 * (c_this_factorial (((c_this_of 0) - (1 : Int32)) - b67_l3).toNatClampNeg)))), (0, .ref a_this), (3, .int b67_l3)]) hx hb dX10_permutationRank_110 rfl hl (by decide) rfl (fun ls hl => ?_)
                refine lv_iinc (v := (b67_l3 + 1)) (lv' := [(3, .int (b67_l3 + 1)), (1, .long (b67_l1 + (r_89.toInt64 * (c_this_factorial (((c_this_of 0) - (1 : Int32)) - b67_l3).toNatClampNeg)))), (0, .ref a_this)]) hx hb dX10_permutationRank_111 hl (k := 2) rfl rfl (by decide) rfl (fun ls hl => ?_)
                refine lv_goto (tgt := 67) hx hb dX10_permutationRank_114 (by decide) ?_
                exact ih67 (b67_l1 + (r_89.toInt64 * (c_this_factorial (((c_this_of 0) - (1 : Int32)) - b67_l3).toNatClampNeg))) (b67_l3 + 1) h _ _ hP hD hS _ (lv_sub hl [2, 1, 0] rfl)
        exact L67 FU b4_l1 (0 : Int32) h _ _ hP hD hS _ (lv_sub hl [1, 2, 0] rfl)
      refine lv_icmp_ge (tgt := 65) hx hb dX10_permutationRank_11 (by decide) (fun hc4 => ?_) (fun hc4 => ?_)
      · have h := rk_if hc4 h
        exact B65  h _ _ hP hD hS _ (lv_sub hl [0, 1] rfl)
      · have h := rk_nif hc4 h
        refine lv_aload_n hx hb dX10_permutationRank_14 rfl (lv_at hl 0 rfl) ?_
        refine va_get (D := D) (ci := 9) (v := .ref a_this_of) (C := RX10) (T := TX10) (N := 17) hx hb htc inX10 hown hV.1 hR 0 rfl rfl 6 (by decide) (htc _ w_4_4) (fun _ h9 => h9) rfl dX10_permutationRank_15 ?_
        refine lv_iconst (v := 1) hx hb dX10_permutationRank_18 (by decide) ?_
        refine va_iald hx hb hV.1 hR 3 0 rfl rfl (show vp_in (1 : Int32) 4 from (by decide : ¬ ((1 : Int32) < 0 ∨ 4 ≤ (1 : Int32).toNatClampNeg))) dX10_permutationRank_19 ?_
        refine W.eq (g2 := F0 m 20 ls [.int (c_this_of 1)]) rfl ?_
        refine lv_iconst (v := 1) hx hb dX10_permutationRank_20 (by decide) ?_
        refine lv_icmp_ne (tgt := 65) hx hb dX10_permutationRank_21 (by decide) (fun hc5 => ?_) (fun hc5 => ?_)
        · have h := rk_if hc5 h
          exact B65  h _ _ hP hD hS _ (lv_sub hl [0, 1] rfl)
        · have h := rk_nnif hc5 h
          refine lv_aload_n hx hb dX10_permutationRank_24 rfl (lv_at hl 0 rfl) ?_
          refine lv_iload_n hx hb dX10_permutationRank_25 rfl (lv_at hl 2 rfl) ?_
          obtain ⟨r_26, hc_26, h⟩ := rk_bd h
          refine rk_i (wr := []) (va_runV (C := RX10) (As := [.int b4_l3]) (rest := []) hF (mtX10_placeAmong l D cI cJ cO PL _ a_this a_this_chosen a_this_factorial a_this_catalan a_this_parted a_this_closed f_this_now a_this_of a_this_buffer a_this_made a_this_stackOne a_this_stackOther a_this_stackLong a_this_left f_this_entryMany a_this_entryFamily a_this_entryOf a_this_entryRank c_this_buffer b4_l3 r_26 hc_26) (cwV 1 htc (rk_gV w_4_233 w_4_235 ws_64 w_1_7 w_4_236) rfl rfl rfl (by decide +kernel) ⟨(Nat.le_of_ble_eq_true rfl), (Nat.le_of_ble_eq_true rfl)⟩) (rk_preV (va_recv hV.1 hR (ci := 9) (q0 := 0) rfl rfl) (rk_preS hP hD hS hR hn hPL hnl hV [] [(false, 0), (false, 1)] rfl (by decide) rfl (by decide))) rfl rfl hl.1 rfl (lv_room (Nat.le_of_ble_eq_true rfl)) dX10_permutationRank_26 ⟨(Nat.le_of_ble_eq_true rfl), (Nat.le_of_ble_eq_true rfl)⟩) hP hD hS hA hR0 hn [] [] rfl rfl (by decide) (by decide) (fun H locs hP hD hS hR => ?_)
          have hP : va_P D vwCl [] H := hP
          have hD : va_D A [] := hD
          refine lv_istore (lv' := [(4, .int r_26), (0, .ref a_this), (1, .long b4_l1), (3, .int b4_l3)]) hx hb dX10_permutationRank_29 hl (by decide) rfl (fun ls hl => ?_)
          refine lv_iload_n hx hb dX10_permutationRank_31 rfl (lv_at hl 3 rfl) ?_
          refine lv_iconst (v := 1) hx hb dX10_permutationRank_32 (by decide) ?_
          refine lv_iadd hx hb dX10_permutationRank_33 ?_
          refine lv_i2l hx hb dX10_permutationRank_34 rfl ?_
          refine lv_lload_n hx hb dX10_permutationRank_35 rfl (lv_at hl 2 rfl) ?_
          refine lv_lmul hx hb dX10_permutationRank_36 ?_
          refine lv_lload_n hx hb dX10_permutationRank_37 rfl (lv_at hl 2 rfl) ?_
          refine lv_ldc2 (v := (2 : Int64)) hx hb hown (htc _ w_4_58) dX10_permutationRank_38 ?_
          refine lv_lrem hx hb dX10_permutationRank_41 (by decide) ?_
          refine lv_lconst (v := 0) hx hb dX10_permutationRank_42 (by decide) ?_
          have B56 : ∀ (b56_t1 : Int32), fX10_permutationRank_B56 b4_l1 b4_l3 (rk_it2 (fX10_permutationRank_L4 c_this_buffer c_this_factorial c_this_of) n4) b56_t1 = some r0 → ∀ (H : Heap) (locs : List Loc), va_P D vwCl [] H → va_D A [] → va_S A s.heap H locs → ∀ (ls : Array Slot), lv_has ls 5 [(0, .ref a_this), (3, .int b4_l3)] → W p l e rmX10_permutationRank s m args below meth c H locs 0 0 Q (F0 m 56 ls [.int b56_t1, .long ((b4_l3 + (1 : Int32)).toInt64 * b4_l1)]) := by
            intro b56_t1 h H locs hP hD hS ls hl
            unfold fX10_permutationRank_B56 at h
            have hR := rk_keep hR0 hn hS
            refine lv_i2l hx hb dX10_permutationRank_56 rfl ?_
            refine lv_ladd hx hb dX10_permutationRank_57 ?_
            refine lv_lstore_n (lv' := [(1, .long (((b4_l3 + (1 : Int32)).toInt64 * b4_l1) + b56_t1.toInt64)), (0, .ref a_this), (3, .int b4_l3)]) hx hb dX10_permutationRank_58 rfl hl (by decide) rfl (fun ls hl => ?_)
            refine lv_iinc (v := (b4_l3 + 1)) (lv' := [(3, .int (b4_l3 + 1)), (1, .long (((b4_l3 + (1 : Int32)).toInt64 * b4_l1) + b56_t1.toInt64)), (0, .ref a_this)]) hx hb dX10_permutationRank_59 hl (k := 2) rfl rfl (by decide) rfl (fun ls hl => ?_)
            refine lv_goto (tgt := 4) hx hb dX10_permutationRank_62 (by decide) ?_
            exact ih4 (((b4_l3 + (1 : Int32)).toInt64 * b4_l1) + b56_t1.toInt64) (b4_l3 + 1) h _ _ hP hD hS _ (lv_sub hl [2, 1, 0] rfl)
          refine rk_lcne (tgt := 54) hx hb dX10_permutationRank_43 dX10_permutationRank_44 (by decide) (fun hc6 => ?_) (fun hc6 => ?_)
          · have h := rk_if hc6 h
            refine lv_iload hx hb dX10_permutationRank_54 (lv_at hl 0 rfl) ?_
            exact B56 r_26 h _ _ hP hD hS _ (lv_sub hl [1, 3] rfl)
          · have h := rk_nnif hc6 h
            refine lv_iload_n hx hb dX10_permutationRank_47 rfl (lv_at hl 3 rfl) ?_
            refine lv_iload hx hb dX10_permutationRank_48 (lv_at hl 0 rfl) ?_
            refine lv_isub hx hb dX10_permutationRank_50 ?_
            refine lv_goto (tgt := 56) hx hb dX10_permutationRank_51 (by decide) ?_
            exact B56 (b4_l3 - r_26) h _ _ hP hD hS _ (lv_sub hl [1, 3] rfl)
  exact L4 FU (0 : Int64) (1 : Int32) h _ _ hP hD hS _ (lv_sub hl [2, 1, 0] rfl)
set_option maxHeartbeats 4000000 in
set_option maxRecDepth 100000 in
theorem mtX10_wordRank (l : Launch) (D : va_G) (cI cJ cO : ClassId) (PL : va_W) (sz : Nat) (a_this : Nat) (a_this_chosen : Nat) (a_this_factorial : Nat) (a_this_catalan : Nat) (a_this_parted : Nat) (a_this_closed : Nat) (f_this_now : Int32) (a_this_of : Nat) (a_this_buffer : Nat) (a_this_made : Nat) (a_this_stackOne : Nat) (a_this_stackOther : Nat) (a_this_stackLong : Nat) (a_this_left : Nat) (f_this_entryMany : Int32) (a_this_entryFamily : Nat) (a_this_entryOf : Nat) (a_this_entryRank : Nat) (c_this_stackOne : Nat → Int32) (c_this_buffer : Nat → Int32) (c_this_closed : Nat → Int64) (c_this_of : Nat → Int32) (r0 : Int64 × (Nat → Int32)) (h : fX10_wordRank c_this_stackOne c_this_buffer c_this_closed c_this_of = some r0) : Met l yX10_wordRank (rk_w yX10_wordRank cX10_wordRank 8 (some .long)) rmX10_wordRank (va_Pc [.ref a_this] (rk_B D (rk_TY cI cJ cO) [(a_this_stackOne, .inl (cI, 64, .inl c_this_stackOne))] [(a_this, .inr (9, [.ref a_this_chosen, .ref a_this_factorial, .ref a_this_catalan, .ref a_this_parted, .ref a_this_closed, .int f_this_now, .ref a_this_of, .ref a_this_buffer, .ref a_this_made, .ref a_this_stackOne, .ref a_this_stackOther, .ref a_this_stackLong, .ref a_this_left, .int f_this_entryMany, .ref a_this_entryFamily, .ref a_this_entryOf, .ref a_this_entryRank])), (a_this_buffer, .inl (cI, 60, .inl c_this_buffer)), (a_this_closed, .inl (cJ, 1722, .inr (.inl c_this_closed))), (a_this_of, .inl (cI, 4, .inl c_this_of))] PL sz)) (rk_Ql r0.1 D [(a_this_stackOne, .inl (cI, 64, .inl r0.2))] [(a_this_stackOne, .inl (cI, 64, .inl c_this_stackOne))] sz) 0 0 (va_A [(a_this_stackOne, .inl (cI, 64, .inl c_this_stackOne))] sz) := by
  refine rk_metl h (fun x : Int64 × (Nat → Int32) => x.1) (fun x => [(a_this_stackOne, .inl (cI, 64, .inl x.2))]) (by decide) (Nat.le_of_ble_eq_true rfl) ?_
  intro p e s m args below meth c A ls Q hret hname hF hP hD hA hV hR0 hn hPL hnl hl h hS
  have hx := hF.1
  have hb := hF.2.1
  have hml := hF.2.2.1
  have hown : s.vm.findClass RX10 = some m.cls := hF.2.2.2.1
  have htc := hF.2.2.2.2
  have hP : va_P D vwCl [(a_this_stackOne, .inl (cI, 64, .inl c_this_stackOne))] s.heap := hP
  have hD : va_D A [(a_this_stackOne, .inl (cI, 64, .inl c_this_stackOne))] := hD
  have hR0 : va_P D vwCl [(a_this, .inr (9, [.ref a_this_chosen, .ref a_this_factorial, .ref a_this_catalan, .ref a_this_parted, .ref a_this_closed, .int f_this_now, .ref a_this_of, .ref a_this_buffer, .ref a_this_made, .ref a_this_stackOne, .ref a_this_stackOther, .ref a_this_stackLong, .ref a_this_left, .int f_this_entryMany, .ref a_this_entryFamily, .ref a_this_entryOf, .ref a_this_entryRank])), (a_this_buffer, .inl (cI, 60, .inl c_this_buffer)), (a_this_closed, .inl (cJ, 1722, .inr (.inl c_this_closed))), (a_this_of, .inl (cI, 4, .inl c_this_of))] s.heap := hR0
  have hR := hR0
  have hl : lv_has ls 8 [(0, .ref a_this)] := hl
  unfold fX10_wordRank at h
  refine lv_lconst (v := 0) hx hb dX10_wordRank_0 (by decide) ?_
  refine lv_lstore_n (lv' := [(1, .long (0 : Int64)), (0, .ref a_this)]) hx hb dX10_wordRank_1 rfl hl (by decide) rfl (fun ls hl => ?_)
  refine lv_iconst (v := 0) hx hb dX10_wordRank_2 (by decide) ?_
  refine lv_istore_n (lv' := [(3, .int (0 : Int32)), (1, .long (0 : Int64)), (0, .ref a_this)]) hx hb dX10_wordRank_3 rfl hl (by decide) rfl (fun ls hl => ?_)
  refine lv_iconst (v := 0) hx hb dX10_wordRank_4 (by decide) ?_
  refine lv_istore (lv' := [(4, .int (0 : Int32)), (3, .int (0 : Int32)), (1, .long (0 : Int64)), (0, .ref a_this)]) hx hb dX10_wordRank_5 hl (by decide) rfl (fun ls hl => ?_)
  have L7 : ∀ (n7 : Nat) (b7_l1 : Int64) (b7_l3 : Int32) (b7_l4 : Int32) (b7_c_this_stackOne : Nat → Int32), rk_it4 (fX10_wordRank_L7 c_this_buffer c_this_closed c_this_of) n7 b7_l1 b7_l3 b7_l4 b7_c_this_stackOne = some r0 → ∀ (H : Heap) (locs : List Loc), va_P D vwCl [(a_this_stackOne, .inl (cI, 64, .inl b7_c_this_stackOne))] H → va_D A [(a_this_stackOne, .inl (cI, 64, .inl b7_c_this_stackOne))] → va_S A s.heap H locs → ∀ (ls : Array Slot), lv_has ls 8 [(0, .ref a_this), (1, .long b7_l1), (3, .int b7_l3), (4, .int b7_l4)] → W p l e rmX10_wordRank s m args below meth c H locs 0 0 Q (F0 m 7 ls []) := by
    intro n7
    induction n7 with
    | zero => intro b7_l1 b7_l3 b7_l4 b7_c_this_stackOne h; exact rk_no h
    | succ n7 ih7 =>
      intro b7_l1 b7_l3 b7_l4 b7_c_this_stackOne h H locs hP hD hS ls hl
      have h : fX10_wordRank_L7 c_this_buffer c_this_closed c_this_of (rk_it4 (fX10_wordRank_L7 c_this_buffer c_this_closed c_this_of) n7) b7_l1 b7_l3 b7_l4 b7_c_this_stackOne = some r0 := h
      unfold fX10_wordRank_L7 at h
      have hR := rk_keep hR0 hn hS
      refine lv_iload hx hb dX10_wordRank_7 (lv_at hl 3 rfl) ?_
      refine lv_iconst (v := 2) hx hb dX10_wordRank_9 (by decide) ?_
      refine lv_aload_n hx hb dX10_wordRank_10 rfl (lv_at hl 0 rfl) ?_
      refine va_get (D := D) (ci := 9) (v := .ref a_this_of) (C := RX10) (T := TX10) (N := 17) hx hb htc inX10 hown hV.1 hR 0 rfl rfl 6 (by decide) (htc _ w_4_4) (fun _ h9 => h9) rfl dX10_wordRank_11 ?_
      refine lv_iconst (v := 0) hx hb dX10_wordRank_14 (by decide) ?_
      refine va_iald hx hb hV.1 hR 3 0 rfl rfl (show vp_in (0 : Int32) 4 from (by decide : ¬ ((0 : Int32) < 0 ∨ 4 ≤ (0 : Int32).toNatClampNeg))) dX10_wordRank_15 ?_
      refine W.eq (g2 := F0 m 16 ls [.int (c_this_of 0), .int (2 : Int32), .int b7_l4]) rfl ?_
      refine lv_imul hx hb dX10_wordRank_16 ?_
      refine lv_icmp_ge (tgt := 182) hx hb dX10_wordRank_17 (by decide) (fun hc1 => ?_) (fun hc1 => ?_)
      · have h := rk_if hc1 h
        refine lv_lload_n hx hb dX10_wordRank_182 rfl (lv_at hl 1 rfl) ?_
        exact hret (b7_l1, b7_c_this_stackOne) _ _ _ _ h dX10_wordRank_183 hP hD hS
      · have h := rk_nif hc1 h
        refine lv_iconst (v := 2) hx hb dX10_wordRank_20 (by decide) ?_
        refine lv_aload_n hx hb dX10_wordRank_21 rfl (lv_at hl 0 rfl) ?_
        refine va_get (D := D) (ci := 9) (v := .ref a_this_of) (C := RX10) (T := TX10) (N := 17) hx hb htc inX10 hown hV.1 hR 0 rfl rfl 6 (by decide) (htc _ w_4_4) (fun _ h9 => h9) rfl dX10_wordRank_22 ?_
        refine lv_iconst (v := 0) hx hb dX10_wordRank_25 (by decide) ?_
        refine va_iald hx hb hV.1 hR 3 0 rfl rfl (show vp_in (0 : Int32) 4 from (by decide : ¬ ((0 : Int32) < 0 ∨ 4 ≤ (0 : Int32).toNatClampNeg))) dX10_wordRank_26 ?_
        refine W.eq (g2 := F0 m 27 ls [.int (c_this_of 0), .int (2 : Int32)]) rfl ?_
        refine lv_imul hx hb dX10_wordRank_27 ?_
        refine lv_iconst (v := 1) hx hb dX10_wordRank_28 (by decide) ?_
        refine lv_isub hx hb dX10_wordRank_29 ?_
        refine lv_iload hx hb dX10_wordRank_30 (lv_at hl 3 rfl) ?_
        refine lv_isub hx hb dX10_wordRank_32 ?_
        refine lv_istore (lv' := [(5, .int ((((2 : Int32) * (c_this_of 0)) - (1 : Int32)) - b7_l4)), (0, .ref a_this), (1, .long b7_l1), (3, .int b7_l3), (4, .int b7_l4)]) hx hb dX10_wordRank_33 hl (by decide) rfl (fun ls hl => ?_)
        refine lv_iconst (v := 0) hx hb dX10_wordRank_35 (by decide) ?_
        refine lv_istore (lv' := [(6, .int (0 : Int32)), (5, .int ((((2 : Int32) * (c_this_of 0)) - (1 : Int32)) - b7_l4)), (0, .ref a_this), (1, .long b7_l1), (3, .int b7_l3), (4, .int b7_l4)]) hx hb dX10_wordRank_36 hl (by decide) rfl (fun ls hl => ?_)
        have L38 : ∀ (n38 : Nat) (b38_l1 : Int64) (b38_l6 : Int32), rk_it2 (fX10_wordRank_L38 c_this_buffer c_this_closed c_this_of b7_l3 b7_l4 b7_c_this_stackOne (rk_it4 (fX10_wordRank_L7 c_this_buffer c_this_closed c_this_of) n7)) n38 b38_l1 b38_l6 = some r0 → ∀ (H : Heap) (locs : List Loc), va_P D vwCl [(a_this_stackOne, .inl (cI, 64, .inl b7_c_this_stackOne))] H → va_D A [(a_this_stackOne, .inl (cI, 64, .inl b7_c_this_stackOne))] → va_S A s.heap H locs → ∀ (ls : Array Slot), lv_has ls 8 [(0, .ref a_this), (1, .long b38_l1), (3, .int b7_l3), (4, .int b7_l4), (5, .int ((((2 : Int32) * (c_this_of 0)) - (1 : Int32)) - b7_l4)), (6, .int b38_l6)] → W p l e rmX10_wordRank s m args below meth c H locs 0 0 Q (F0 m 38 ls []) := by
          intro n38
          induction n38 with
          | zero => intro b38_l1 b38_l6 h; exact rk_no h
          | succ n38 ih38 =>
            intro b38_l1 b38_l6 h H locs hP hD hS ls hl
            have h : fX10_wordRank_L38 c_this_buffer c_this_closed c_this_of b7_l3 b7_l4 b7_c_this_stackOne (rk_it4 (fX10_wordRank_L7 c_this_buffer c_this_closed c_this_of) n7) (rk_it2 (fX10_wordRank_L38 c_this_buffer c_this_closed c_this_of b7_l3 b7_l4 b7_c_this_stackOne (rk_it4 (fX10_wordRank_L7 c_this_buffer c_this_closed c_this_of) n7)) n38) b38_l1 b38_l6 = some r0 := h
            unfold fX10_wordRank_L38 at h
            have hR := rk_keep hR0 hn hS
            refine lv_iload hx hb dX10_wordRank_38 (lv_at hl 5 rfl) ?_
            refine lv_aload_n hx hb dX10_wordRank_40 rfl (lv_at hl 0 rfl) ?_
            refine va_get (D := D) (ci := 9) (v := .ref a_this_buffer) (C := RX10) (T := TX10) (N := 17) hx hb htc inX10 hown hV.1 hR 0 rfl rfl 7 (by decide) (htc _ w_4_5) (fun _ h9 => h9) rfl dX10_wordRank_41 ?_
            refine lv_iload hx hb dX10_wordRank_44 (lv_at hl 3 rfl) ?_
            obtain ⟨hg2, h⟩ := rk_gd h
            refine va_iald hx hb hV.1 hR 1 0 rfl rfl hg2 dX10_wordRank_46 ?_
            refine lv_icmp_ge (tgt := 142) hx hb dX10_wordRank_47 (by decide) (fun hc3 => ?_) (fun hc3 => ?_)
            · have h := rk_if hc3 h
              refine lv_aload_n hx hb dX10_wordRank_142 rfl (lv_at hl 0 rfl) ?_
              refine va_get (D := D) (ci := 9) (v := .ref a_this_buffer) (C := RX10) (T := TX10) (N := 17) hx hb htc inX10 hown hV.1 hR 0 rfl rfl 7 (by decide) (htc _ w_4_5) (fun _ h9 => h9) rfl dX10_wordRank_143 ?_
              refine lv_iload hx hb dX10_wordRank_146 (lv_at hl 3 rfl) ?_
              refine va_iald hx hb hV.1 hR 1 0 rfl rfl hg2 dX10_wordRank_148 ?_
              refine lv_iconst (v := 2) hx hb dX10_wordRank_149 (by decide) ?_
              refine lv_irem hx hb dX10_wordRank_150 (by decide) ?_
              have B176 : ∀ (b176_l3 : Int32) (b176_c_this_stackOne : Nat → Int32), fX10_wordRank_B176 b7_l4 (rk_it4 (fX10_wordRank_L7 c_this_buffer c_this_closed c_this_of) n7) b38_l1 b176_l3 b176_c_this_stackOne = some r0 → ∀ (H : Heap) (locs : List Loc), va_P D vwCl [(a_this_stackOne, .inl (cI, 64, .inl b176_c_this_stackOne))] H → va_D A [(a_this_stackOne, .inl (cI, 64, .inl b176_c_this_stackOne))] → va_S A s.heap H locs → ∀ (ls : Array Slot), lv_has ls 8 [(0, .ref a_this), (1, .long b38_l1), (3, .int b176_l3), (4, .int b7_l4)] → W p l e rmX10_wordRank s m args below meth c H locs 0 0 Q (F0 m 176 ls []) := by
                intro b176_l3 b176_c_this_stackOne h H locs hP hD hS ls hl
                unfold fX10_wordRank_B176 at h
                have hR := rk_keep hR0 hn hS
                refine lv_iinc (v := (b7_l4 + 1)) (lv' := [(4, .int (b7_l4 + 1)), (0, .ref a_this), (1, .long b38_l1), (3, .int b176_l3)]) hx hb dX10_wordRank_176 hl (k := 3) rfl rfl (by decide) rfl (fun ls hl => ?_)
                refine lv_goto (tgt := 7) hx hb dX10_wordRank_179 (by decide) ?_
                exact ih7 b38_l1 b176_l3 (b7_l4 + 1) b176_c_this_stackOne h _ _ hP hD hS _ (lv_sub hl [1, 2, 3, 0] rfl)
              refine lv_if_ne (tgt := 173) hx hb dX10_wordRank_151 (by decide) (fun hc4 => ?_) (fun hc4 => ?_)
              · have h := rk_if hc4 h
                refine lv_iinc (v := (b7_l3 + (-1))) (lv' := [(3, .int (b7_l3 + (-1))), (0, .ref a_this), (1, .long b38_l1), (4, .int b7_l4), (5, .int ((((2 : Int32) * (c_this_of 0)) - (1 : Int32)) - b7_l4)), (6, .int b38_l6)]) hx hb dX10_wordRank_173 hl (k := 2) rfl rfl (by decide) rfl (fun ls hl => ?_)
                exact B176 (b7_l3 + (-1)) b7_c_this_stackOne h _ _ hP hD hS _ (lv_sub hl [1, 2, 0, 3] rfl)
              · have h := rk_nnif hc4 h
                refine lv_aload_n hx hb dX10_wordRank_154 rfl (lv_at hl 0 rfl) ?_
                refine va_get (D := D) (ci := 9) (v := .ref a_this_stackOne) (C := RX10) (T := TX10) (N := 17) hx hb htc inX10 hown hV.1 hR 0 rfl rfl 9 (by decide) (htc _ w_4_7) (fun _ h9 => h9) rfl dX10_wordRank_155 ?_
                refine lv_iload_n hx hb dX10_wordRank_158 rfl (lv_at hl 2 rfl) ?_
                refine lv_aload_n hx hb dX10_wordRank_159 rfl (lv_at hl 0 rfl) ?_
                refine va_get (D := D) (ci := 9) (v := .ref a_this_buffer) (C := RX10) (T := TX10) (N := 17) hx hb htc inX10 hown hV.1 hR 0 rfl rfl 7 (by decide) (htc _ w_4_5) (fun _ h9 => h9) rfl dX10_wordRank_160 ?_
                refine lv_iload hx hb dX10_wordRank_163 (lv_at hl 3 rfl) ?_
                refine va_iald hx hb hV.1 hR 1 0 rfl rfl hg2 dX10_wordRank_165 ?_
                obtain ⟨hg5, h⟩ := rk_gd h
                refine va_iast hx hb hV.1 hP hD hS 0 0 rfl rfl hg5 dX10_wordRank_166 (fun H locs hP hD hS => ?_)
                have hP : va_P D vwCl [(a_this_stackOne, .inl (cI, 64, .inl (upd b7_c_this_stackOne b7_l3.toNatClampNeg (c_this_buffer b7_l4.toNatClampNeg))))] H := hP
                have hD : va_D A [(a_this_stackOne, .inl (cI, 64, .inl (upd b7_c_this_stackOne b7_l3.toNatClampNeg (c_this_buffer b7_l4.toNatClampNeg))))] := hD
                have hR := rk_keep hR0 hn hS
                refine lv_iinc (v := (b7_l3 + 1)) (lv' := [(3, .int (b7_l3 + 1)), (0, .ref a_this), (1, .long b38_l1), (4, .int b7_l4), (5, .int ((((2 : Int32) * (c_this_of 0)) - (1 : Int32)) - b7_l4)), (6, .int b38_l6)]) hx hb dX10_wordRank_167 hl (k := 2) rfl rfl (by decide) rfl (fun ls hl => ?_)
                refine lv_goto (tgt := 176) hx hb dX10_wordRank_170 (by decide) ?_
                exact B176 (b7_l3 + 1) (upd b7_c_this_stackOne b7_l3.toNatClampNeg (c_this_buffer b7_l4.toNatClampNeg)) h _ _ hP hD hS _ (lv_sub hl [1, 2, 0, 3] rfl)
            · have h := rk_nif hc3 h
              refine lv_iload hx hb dX10_wordRank_50 (lv_at hl 5 rfl) ?_
              refine lv_iconst (v := 2) hx hb dX10_wordRank_52 (by decide) ?_
              refine lv_irem hx hb dX10_wordRank_53 (by decide) ?_
              refine lv_iconst (v := 1) hx hb dX10_wordRank_54 (by decide) ?_
              have B82 : ∀ (b82_t0 : Int32), fX10_wordRank_B82 c_this_closed c_this_of b7_l3 b7_l4 b38_l1 b38_l6 (rk_it2 (fX10_wordRank_L38 c_this_buffer c_this_closed c_this_of b7_l3 b7_l4 b7_c_this_stackOne (rk_it4 (fX10_wordRank_L7 c_this_buffer c_this_closed c_this_of) n7)) n38) b82_t0 = some r0 → ∀ (H : Heap) (locs : List Loc), va_P D vwCl [(a_this_stackOne, .inl (cI, 64, .inl b7_c_this_stackOne))] H → va_D A [(a_this_stackOne, .inl (cI, 64, .inl b7_c_this_stackOne))] → va_S A s.heap H locs → ∀ (ls : Array Slot), lv_has ls 8 [(0, .ref a_this), (1, .long b38_l1), (3, .int b7_l3), (4, .int b7_l4), (5, .int ((((2 : Int32) * (c_this_of 0)) - (1 : Int32)) - b7_l4)), (6, .int b38_l6)] → W p l e rmX10_wordRank s m args below meth c H locs 0 0 Q (F0 m 82 ls [.int b82_t0]) := by
                intro b82_t0 h H locs hP hD hS ls hl
                unfold fX10_wordRank_B82 at h
                have hR := rk_keep hR0 hn hS
                refine lv_istore (lv' := [(7, .int b82_t0), (0, .ref a_this), (1, .long b38_l1), (3, .int b7_l3), (4, .int b7_l4), (5, .int ((((2 : Int32) * (c_this_of 0)) - (1 : Int32)) - b7_l4)), (6, .int b38_l6)]) hx hb dX10_wordRank_82 hl (by decide) rfl (fun ls hl => ?_)
                refine lv_lload_n hx hb dX10_wordRank_84 rfl (lv_at hl 2 rfl) ?_
                refine lv_iload hx hb dX10_wordRank_85 (lv_at hl 6 rfl) ?_
                refine lv_iconst (v := 2) hx hb dX10_wordRank_87 (by decide) ?_
                refine lv_irem hx hb dX10_wordRank_88 (by decide) ?_
                have B134 : ∀ (b134_t1 : Int64), fX10_wordRank_B134 b38_l1 b38_l6 (rk_it2 (fX10_wordRank_L38 c_this_buffer c_this_closed c_this_of b7_l3 b7_l4 b7_c_this_stackOne (rk_it4 (fX10_wordRank_L7 c_this_buffer c_this_closed c_this_of) n7)) n38) b134_t1 = some r0 → ∀ (H : Heap) (locs : List Loc), va_P D vwCl [(a_this_stackOne, .inl (cI, 64, .inl b7_c_this_stackOne))] H → va_D A [(a_this_stackOne, .inl (cI, 64, .inl b7_c_this_stackOne))] → va_S A s.heap H locs → ∀ (ls : Array Slot), lv_has ls 8 [(0, .ref a_this), (3, .int b7_l3), (4, .int b7_l4), (5, .int ((((2 : Int32) * (c_this_of 0)) - (1 : Int32)) - b7_l4)), (6, .int b38_l6)] → W p l e rmX10_wordRank s m args below meth c H locs 0 0 Q (F0 m 134 ls [.long b134_t1, .long b38_l1]) := by
                  intro b134_t1 h H locs hP hD hS ls hl
                  unfold fX10_wordRank_B134 at h
                  have hR := rk_keep hR0 hn hS
                  refine lv_ladd hx hb dX10_wordRank_134 ?_
                  refine lv_lstore_n (lv' := [(1, .long (b38_l1 + b134_t1)), (0, .ref a_this), (3, .int b7_l3), (4, .int b7_l4), (5, .int ((((2 : Int32) * (c_this_of 0)) - (1 : Int32)) - b7_l4)), (6, .int b38_l6)]) hx hb dX10_wordRank_135 rfl hl (by decide) rfl (fun ls hl => ?_)
                  refine lv_iinc (v := (b38_l6 + 1)) (lv' := [(6, .int (b38_l6 + 1)), (1, .long (b38_l1 + b134_t1)), (0, .ref a_this), (3, .int b7_l3), (4, .int b7_l4), (5, .int ((((2 : Int32) * (c_this_of 0)) - (1 : Int32)) - b7_l4))]) hx hb dX10_wordRank_136 hl (k := 5) rfl rfl (by decide) rfl (fun ls hl => ?_)
                  refine lv_goto (tgt := 38) hx hb dX10_wordRank_139 (by decide) ?_
                  exact ih38 (b38_l1 + b134_t1) (b38_l6 + 1) h _ _ hP hD hS _ (lv_sub hl [2, 1, 3, 4, 5, 0] rfl)
                refine lv_if_ne (tgt := 110) hx hb dX10_wordRank_89 (by decide) (fun hc6 => ?_) (fun hc6 => ?_)
                · have h := rk_if hc6 h
                  refine lv_iload hx hb dX10_wordRank_110 (lv_at hl 0 rfl) ?_
                  refine lv_if_eq (tgt := 133) hx hb dX10_wordRank_112 (by decide) (fun hc7 => ?_) (fun hc7 => ?_)
                  · have h := rk_if hc7 h
                    refine lv_lconst (v := 0) hx hb dX10_wordRank_133 (by decide) ?_
                    exact B134 (0 : Int64) h _ _ hP hD hS _ (lv_sub hl [1, 3, 4, 5, 6] rfl)
                  · have h := rk_nif hc7 h
                    refine lv_aload_n hx hb dX10_wordRank_115 rfl (lv_at hl 1 rfl) ?_
                    refine lv_iload hx hb dX10_wordRank_116 (lv_at hl 5 rfl) ?_
                    refine lv_iload_n hx hb dX10_wordRank_118 rfl (lv_at hl 3 rfl) ?_
                    refine lv_iconst (v := 1) hx hb dX10_wordRank_119 (by decide) ?_
                    refine lv_isub hx hb dX10_wordRank_120 ?_
                    refine lv_aload_n hx hb dX10_wordRank_121 rfl (lv_at hl 1 rfl) ?_
                    refine va_get (D := D) (ci := 9) (v := .ref a_this_of) (C := RX10) (T := TX10) (N := 17) hx hb htc inX10 hown hV.1 hR 0 rfl rfl 6 (by decide) (htc _ w_4_4) (fun _ h9 => h9) rfl dX10_wordRank_122 ?_
                    refine lv_iconst (v := 1) hx hb dX10_wordRank_125 (by decide) ?_
                    refine va_iald hx hb hV.1 hR 3 0 rfl rfl (show vp_in (1 : Int32) 4 from (by decide : ¬ ((1 : Int32) < 0 ∨ 4 ≤ (1 : Int32).toNatClampNeg))) dX10_wordRank_126 ?_
                    refine W.eq (g2 := F0 m 127 ls [.int (c_this_of 1), .int (b7_l3 - (1 : Int32)), .int ((((2 : Int32) * (c_this_of 0)) - (1 : Int32)) - b7_l4), .ref a_this, .long b38_l1]) rfl ?_
                    obtain ⟨r_127, hc_127, h⟩ := rk_bd h
                    refine rk_l (wr := [(a_this_stackOne, .inl (cI, 64, .inl b7_c_this_stackOne))]) (va_runV (C := RX10) (As := [.int ((((2 : Int32) * (c_this_of 0)) - (1 : Int32)) - b7_l4), .int (b7_l3 - (1 : Int32)), .int (c_this_of 1)]) (rest := [.long b38_l1]) hF (mtX10_waysOn l D cI cJ cO PL _ a_this a_this_chosen a_this_factorial a_this_catalan a_this_parted a_this_closed f_this_now a_this_of a_this_buffer a_this_made a_this_stackOne a_this_stackOther a_this_stackLong a_this_left f_this_entryMany a_this_entryFamily a_this_entryOf a_this_entryRank c_this_closed ((((2 : Int32) * (c_this_of 0)) - (1 : Int32)) - b7_l4) (b7_l3 - (1 : Int32)) (c_this_of 1) r_127 hc_127) (cwV 3 htc (rk_gV w_4_91 w_4_93 ws_43 w_1_7 w_4_94) rfl rfl rfl (by decide +kernel) ⟨(Nat.le_of_ble_eq_true rfl), (Nat.le_of_ble_eq_true rfl)⟩) (rk_preV (va_recv hV.1 hR (ci := 9) (q0 := 0) rfl rfl) (rk_preS hP hD hS hR hn hPL hnl hV [] [(false, 0), (false, 2)] rfl (by decide) rfl (by decide))) rfl rfl hl.1 rfl (lv_room (Nat.le_of_ble_eq_true rfl)) dX10_wordRank_127 ⟨(Nat.le_of_ble_eq_true rfl), (Nat.le_of_ble_eq_true rfl)⟩) hP hD hS hA hR0 hn [] [0] rfl rfl (by decide) (by decide) (fun H locs hP hD hS hR => ?_)
                    have hP : va_P D vwCl [(a_this_stackOne, .inl (cI, 64, .inl b7_c_this_stackOne))] H := hP
                    have hD : va_D A [(a_this_stackOne, .inl (cI, 64, .inl b7_c_this_stackOne))] := hD
                    refine lv_goto (tgt := 134) hx hb dX10_wordRank_130 (by decide) ?_
                    exact B134 r_127 h _ _ hP hD hS _ (lv_sub hl [1, 3, 4, 5, 6] rfl)
                · have h := rk_nnif hc6 h
                  refine lv_aload_n hx hb dX10_wordRank_92 rfl (lv_at hl 1 rfl) ?_
                  refine lv_iload hx hb dX10_wordRank_93 (lv_at hl 5 rfl) ?_
                  refine lv_iload_n hx hb dX10_wordRank_95 rfl (lv_at hl 3 rfl) ?_
                  refine lv_iconst (v := 1) hx hb dX10_wordRank_96 (by decide) ?_
                  refine lv_iadd hx hb dX10_wordRank_97 ?_
                  refine lv_aload_n hx hb dX10_wordRank_98 rfl (lv_at hl 1 rfl) ?_
                  refine va_get (D := D) (ci := 9) (v := .ref a_this_of) (C := RX10) (T := TX10) (N := 17) hx hb htc inX10 hown hV.1 hR 0 rfl rfl 6 (by decide) (htc _ w_4_4) (fun _ h9 => h9) rfl dX10_wordRank_99 ?_
                  refine lv_iconst (v := 1) hx hb dX10_wordRank_102 (by decide) ?_
                  refine va_iald hx hb hV.1 hR 3 0 rfl rfl (show vp_in (1 : Int32) 4 from (by decide : ¬ ((1 : Int32) < 0 ∨ 4 ≤ (1 : Int32).toNatClampNeg))) dX10_wordRank_103 ?_
                  refine W.eq (g2 := F0 m 104 ls [.int (c_this_of 1), .int (b7_l3 + (1 : Int32)), .int ((((2 : Int32) * (c_this_of 0)) - (1 : Int32)) - b7_l4), .ref a_this, .long b38_l1]) rfl ?_
                  obtain ⟨r_104, hc_104, h⟩ := rk_bd h
                  refine rk_l (wr := [(a_this_stackOne, .inl (cI, 64, .inl b7_c_this_stackOne))]) (va_runV (C := RX10) (As := [.int ((((2 : Int32) * (c_this_of 0)) - (1 : Int32)) - b7_l4), .int (b7_l3 + (1 : Int32)), .int (c_this_of 1)]) (rest := [.long b38_l1]) hF (mtX10_waysOn l D cI cJ cO PL _ a_this a_this_chosen a_this_factorial a_this_catalan a_this_parted a_this_closed f_this_now a_this_of a_this_buffer a_this_made a_this_stackOne a_this_stackOther a_this_stackLong a_this_left f_this_entryMany a_this_entryFamily a_this_entryOf a_this_entryRank c_this_closed ((((2 : Int32) * (c_this_of 0)) - (1 : Int32)) - b7_l4) (b7_l3 + (1 : Int32)) (c_this_of 1) r_104 hc_104) (cwV 3 htc (rk_gV w_4_91 w_4_93 ws_43 w_1_7 w_4_94) rfl rfl rfl (by decide +kernel) ⟨(Nat.le_of_ble_eq_true rfl), (Nat.le_of_ble_eq_true rfl)⟩) (rk_preV (va_recv hV.1 hR (ci := 9) (q0 := 0) rfl rfl) (rk_preS hP hD hS hR hn hPL hnl hV [] [(false, 0), (false, 2)] rfl (by decide) rfl (by decide))) rfl rfl hl.1 rfl (lv_room (Nat.le_of_ble_eq_true rfl)) dX10_wordRank_104 ⟨(Nat.le_of_ble_eq_true rfl), (Nat.le_of_ble_eq_true rfl)⟩) hP hD hS hA hR0 hn [] [0] rfl rfl (by decide) (by decide) (fun H locs hP hD hS hR => ?_)
                  have hP : va_P D vwCl [(a_this_stackOne, .inl (cI, 64, .inl b7_c_this_stackOne))] H := hP
                  have hD : va_D A [(a_this_stackOne, .inl (cI, 64, .inl b7_c_this_stackOne))] := hD
                  refine lv_goto (tgt := 134) hx hb dX10_wordRank_107 (by decide) ?_
                  exact B134 r_104 h _ _ hP hD hS _ (lv_sub hl [1, 3, 4, 5, 6] rfl)
              have B81 : fX10_wordRank_B81 c_this_closed c_this_of b7_l3 b7_l4 b38_l1 b38_l6 (rk_it2 (fX10_wordRank_L38 c_this_buffer c_this_closed c_this_of b7_l3 b7_l4 b7_c_this_stackOne (rk_it4 (fX10_wordRank_L7 c_this_buffer c_this_closed c_this_of) n7)) n38) = some r0 → ∀ (H : Heap) (locs : List Loc), va_P D vwCl [(a_this_stackOne, .inl (cI, 64, .inl b7_c_this_stackOne))] H → va_D A [(a_this_stackOne, .inl (cI, 64, .inl b7_c_this_stackOne))] → va_S A s.heap H locs → ∀ (ls : Array Slot), lv_has ls 8 [(0, .ref a_this), (1, .long b38_l1), (3, .int b7_l3), (4, .int b7_l4), (5, .int ((((2 : Int32) * (c_this_of 0)) - (1 : Int32)) - b7_l4)), (6, .int b38_l6)] → W p l e rmX10_wordRank s m args below meth c H locs 0 0 Q (F0 m 81 ls []) := by
                intro  h H locs hP hD hS ls hl
                unfold fX10_wordRank_B81 at h
                have hR := rk_keep hR0 hn hS
                refine lv_iconst (v := 0) hx hb dX10_wordRank_81 (by decide) ?_
                exact B82 (0 : Int32) h _ _ hP hD hS _ hl
              refine lv_icmp_ne (tgt := 81) hx hb dX10_wordRank_55 (by decide) (fun hc8 => ?_) (fun hc8 => ?_)
              · have h := rk_if hc8 h
                exact B81  h _ _ hP hD hS _ hl
              · have h := rk_nnif hc8 h
                refine lv_iload_n hx hb dX10_wordRank_58 rfl (lv_at hl 2 rfl) ?_
                refine lv_if_le (tgt := 81) hx hb dX10_wordRank_59 (by decide) (fun hc9 => ?_) (fun hc9 => ?_)
                · have h := rk_if hc9 h
                  exact B81  h _ _ hP hD hS _ hl
                · have h := rk_nif hc9 h
                  refine lv_aload_n hx hb dX10_wordRank_62 rfl (lv_at hl 0 rfl) ?_
                  refine va_get (D := D) (ci := 9) (v := .ref a_this_stackOne) (C := RX10) (T := TX10) (N := 17) hx hb htc inX10 hown hV.1 hR 0 rfl rfl 9 (by decide) (htc _ w_4_7) (fun _ h9 => h9) rfl dX10_wordRank_63 ?_
                  refine lv_iload_n hx hb dX10_wordRank_66 rfl (lv_at hl 2 rfl) ?_
                  refine lv_iconst (v := 1) hx hb dX10_wordRank_67 (by decide) ?_
                  refine lv_isub hx hb dX10_wordRank_68 ?_
                  obtain ⟨hg10, h⟩ := rk_gd h
                  refine va_iald hx hb hV.1 hP 0 0 rfl rfl hg10 dX10_wordRank_69 ?_
                  refine lv_iload hx hb dX10_wordRank_70 (lv_at hl 5 rfl) ?_
                  refine lv_iconst (v := 1) hx hb dX10_wordRank_72 (by decide) ?_
                  refine lv_isub hx hb dX10_wordRank_73 ?_
                  refine lv_icmp_ne (tgt := 81) hx hb dX10_wordRank_74 (by decide) (fun hc11 => ?_) (fun hc11 => ?_)
                  · have h := rk_if hc11 h
                    exact B81  h _ _ hP hD hS _ hl
                  · have h := rk_nnif hc11 h
                    refine lv_iconst (v := 1) hx hb dX10_wordRank_77 (by decide) ?_
                    refine lv_goto (tgt := 82) hx hb dX10_wordRank_78 (by decide) ?_
                    exact B82 (1 : Int32) h _ _ hP hD hS _ hl
        exact L38 FU b7_l1 (0 : Int32) h _ _ hP hD hS _ (lv_sub hl [2, 3, 4, 5, 1, 0] rfl)
  exact L7 FU (0 : Int64) (0 : Int32) (0 : Int32) c_this_stackOne h _ _ hP hD hS _ (lv_sub hl [3, 2, 1, 0] rfl)
set_option maxHeartbeats 4000000 in
set_option maxRecDepth 100000 in
theorem mtX10_treeRank (l : Launch) (D : va_G) (cI cJ cO : ClassId) (PL : va_W) (sz : Nat) (a_this : Nat) (a_this_chosen : Nat) (a_this_factorial : Nat) (a_this_catalan : Nat) (a_this_parted : Nat) (a_this_closed : Nat) (f_this_now : Int32) (a_this_of : Nat) (a_this_buffer : Nat) (a_this_made : Nat) (a_this_stackOne : Nat) (a_this_stackOther : Nat) (a_this_stackLong : Nat) (a_this_left : Nat) (f_this_entryMany : Int32) (a_this_entryFamily : Nat) (a_this_entryOf : Nat) (a_this_entryRank : Nat) (c_this_stackLong : Nat → Int64) (c_this_stackOne : Nat → Int32) (c_this_buffer : Nat → Int32) (c_this_catalan : Nat → Int64) (c_this_of : Nat → Int32) (r0 : Int64 × (Nat → Int64) × (Nat → Int32)) (h : fX10_treeRank c_this_stackLong c_this_stackOne c_this_buffer c_this_catalan c_this_of = some r0) : Met l yX10_treeRank (rk_w yX10_treeRank cX10_treeRank 10 (some .long)) rmX10_treeRank (va_Pc [.ref a_this] (rk_B D (rk_TY cI cJ cO) [(a_this_stackLong, .inl (cJ, 64, .inr (.inl c_this_stackLong))), (a_this_stackOne, .inl (cI, 64, .inl c_this_stackOne))] [(a_this, .inr (9, [.ref a_this_chosen, .ref a_this_factorial, .ref a_this_catalan, .ref a_this_parted, .ref a_this_closed, .int f_this_now, .ref a_this_of, .ref a_this_buffer, .ref a_this_made, .ref a_this_stackOne, .ref a_this_stackOther, .ref a_this_stackLong, .ref a_this_left, .int f_this_entryMany, .ref a_this_entryFamily, .ref a_this_entryOf, .ref a_this_entryRank])), (a_this_buffer, .inl (cI, 60, .inl c_this_buffer)), (a_this_catalan, .inl (cJ, 31, .inr (.inl c_this_catalan))), (a_this_of, .inl (cI, 4, .inl c_this_of))] PL sz)) (rk_Ql r0.1 D [(a_this_stackLong, .inl (cJ, 64, .inr (.inl r0.2.1))), (a_this_stackOne, .inl (cI, 64, .inl r0.2.2))] [(a_this_stackLong, .inl (cJ, 64, .inr (.inl c_this_stackLong))), (a_this_stackOne, .inl (cI, 64, .inl c_this_stackOne))] sz) 0 0 (va_A [(a_this_stackLong, .inl (cJ, 64, .inr (.inl c_this_stackLong))), (a_this_stackOne, .inl (cI, 64, .inl c_this_stackOne))] sz) := by
  refine rk_metl h (fun x : Int64 × (Nat → Int64) × (Nat → Int32) => x.1) (fun x => [(a_this_stackLong, .inl (cJ, 64, .inr (.inl x.2.1))), (a_this_stackOne, .inl (cI, 64, .inl x.2.2))]) (by decide) (Nat.le_of_ble_eq_true rfl) ?_
  intro p e s m args below meth c A ls Q hret hname hF hP hD hA hV hR0 hn hPL hnl hl h hS
  have hx := hF.1
  have hb := hF.2.1
  have hml := hF.2.2.1
  have hown : s.vm.findClass RX10 = some m.cls := hF.2.2.2.1
  have htc := hF.2.2.2.2
  have hP : va_P D vwCl [(a_this_stackLong, .inl (cJ, 64, .inr (.inl c_this_stackLong))), (a_this_stackOne, .inl (cI, 64, .inl c_this_stackOne))] s.heap := hP
  have hD : va_D A [(a_this_stackLong, .inl (cJ, 64, .inr (.inl c_this_stackLong))), (a_this_stackOne, .inl (cI, 64, .inl c_this_stackOne))] := hD
  have hR0 : va_P D vwCl [(a_this, .inr (9, [.ref a_this_chosen, .ref a_this_factorial, .ref a_this_catalan, .ref a_this_parted, .ref a_this_closed, .int f_this_now, .ref a_this_of, .ref a_this_buffer, .ref a_this_made, .ref a_this_stackOne, .ref a_this_stackOther, .ref a_this_stackLong, .ref a_this_left, .int f_this_entryMany, .ref a_this_entryFamily, .ref a_this_entryOf, .ref a_this_entryRank])), (a_this_buffer, .inl (cI, 60, .inl c_this_buffer)), (a_this_catalan, .inl (cJ, 31, .inr (.inl c_this_catalan))), (a_this_of, .inl (cI, 4, .inl c_this_of))] s.heap := hR0
  have hR := hR0
  have hl : lv_has ls 10 [(0, .ref a_this)] := hl
  unfold fX10_treeRank at h
  refine lv_lconst (v := 0) hx hb dX10_treeRank_0 (by decide) ?_
  refine lv_lstore_n (lv' := [(1, .long (0 : Int64)), (0, .ref a_this)]) hx hb dX10_treeRank_1 rfl hl (by decide) rfl (fun ls hl => ?_)
  refine lv_iconst (v := 1) hx hb dX10_treeRank_2 (by decide) ?_
  refine lv_istore_n (lv' := [(3, .int (1 : Int32)), (1, .long (0 : Int64)), (0, .ref a_this)]) hx hb dX10_treeRank_3 rfl hl (by decide) rfl (fun ls hl => ?_)
  refine lv_aload_n hx hb dX10_treeRank_4 rfl (lv_at hl 2 rfl) ?_
  refine va_get (D := D) (ci := 9) (v := .ref a_this_stackOne) (C := RX10) (T := TX10) (N := 17) hx hb htc inX10 hown hV.1 hR 0 rfl rfl 9 (by decide) (htc _ w_4_7) (fun _ h9 => h9) rfl dX10_treeRank_5 ?_
  refine lv_iconst (v := 0) hx hb dX10_treeRank_8 (by decide) ?_
  refine lv_aload_n hx hb dX10_treeRank_9 rfl (lv_at hl 2 rfl) ?_
  refine va_get (D := D) (ci := 9) (v := .ref a_this_of) (C := RX10) (T := TX10) (N := 17) hx hb htc inX10 hown hV.1 hR 0 rfl rfl 6 (by decide) (htc _ w_4_4) (fun _ h9 => h9) rfl dX10_treeRank_10 ?_
  refine lv_iconst (v := 0) hx hb dX10_treeRank_13 (by decide) ?_
  refine va_iald hx hb hV.1 hR 3 0 rfl rfl (show vp_in (0 : Int32) 4 from (by decide : ¬ ((0 : Int32) < 0 ∨ 4 ≤ (0 : Int32).toNatClampNeg))) dX10_treeRank_14 ?_
  refine W.eq (g2 := F0 m 15 ls [.int (c_this_of 0), .int (0 : Int32), .ref a_this_stackOne]) rfl ?_
  refine va_iast hx hb hV.1 hP hD hS 1 0 rfl rfl (show vp_in (0 : Int32) 64 from (by decide : ¬ ((0 : Int32) < 0 ∨ 64 ≤ (0 : Int32).toNatClampNeg))) dX10_treeRank_15 (fun H locs hP hD hS => ?_)
  have hP : va_P D vwCl [(a_this_stackLong, .inl (cJ, 64, .inr (.inl c_this_stackLong))), (a_this_stackOne, .inl (cI, 64, .inl (upd c_this_stackOne 0 (c_this_of 0))))] H := hP
  have hD : va_D A [(a_this_stackLong, .inl (cJ, 64, .inr (.inl c_this_stackLong))), (a_this_stackOne, .inl (cI, 64, .inl (upd c_this_stackOne 0 (c_this_of 0))))] := hD
  have hR := rk_keep hR0 hn hS
  refine lv_aload_n hx hb dX10_treeRank_16 rfl (lv_at hl 2 rfl) ?_
  refine va_get (D := D) (ci := 9) (v := .ref a_this_stackLong) (C := RX10) (T := TX10) (N := 17) hx hb htc inX10 hown hV.1 hR 0 rfl rfl 11 (by decide) (htc _ w_4_9) (fun _ h9 => h9) rfl dX10_treeRank_17 ?_
  refine lv_iconst (v := 0) hx hb dX10_treeRank_20 (by decide) ?_
  refine lv_lconst (v := 1) hx hb dX10_treeRank_21 (by decide) ?_
  refine va_last hx hb hV.1 hP hD hS 0 1 rfl rfl (show vp_in (0 : Int32) 64 from (by decide : ¬ ((0 : Int32) < 0 ∨ 64 ≤ (0 : Int32).toNatClampNeg))) dX10_treeRank_22 (fun H locs hP hD hS => ?_)
  have hP : va_P D vwCl [(a_this_stackLong, .inl (cJ, 64, .inr (.inl (vp_updL c_this_stackLong 0 (1 : Int64))))), (a_this_stackOne, .inl (cI, 64, .inl (upd c_this_stackOne 0 (c_this_of 0))))] H := hP
  have hD : va_D A [(a_this_stackLong, .inl (cJ, 64, .inr (.inl (vp_updL c_this_stackLong 0 (1 : Int64))))), (a_this_stackOne, .inl (cI, 64, .inl (upd c_this_stackOne 0 (c_this_of 0))))] := hD
  have hR := rk_keep hR0 hn hS
  refine lv_iconst (v := 0) hx hb dX10_treeRank_23 (by decide) ?_
  refine lv_istore (lv' := [(4, .int (0 : Int32)), (3, .int (1 : Int32)), (1, .long (0 : Int64)), (0, .ref a_this)]) hx hb dX10_treeRank_24 hl (by decide) rfl (fun ls hl => ?_)
  have L26 : ∀ (n26 : Nat) (b26_l1 : Int64) (b26_l3 : Int32) (b26_l4 : Int32) (b26_c_this_stackLong : Nat → Int64) (b26_c_this_stackOne : Nat → Int32), rk_it5 (fX10_treeRank_L26 c_this_buffer c_this_catalan c_this_of) n26 b26_l1 b26_l3 b26_l4 b26_c_this_stackLong b26_c_this_stackOne = some r0 → ∀ (H : Heap) (locs : List Loc), va_P D vwCl [(a_this_stackLong, .inl (cJ, 64, .inr (.inl b26_c_this_stackLong))), (a_this_stackOne, .inl (cI, 64, .inl b26_c_this_stackOne))] H → va_D A [(a_this_stackLong, .inl (cJ, 64, .inr (.inl b26_c_this_stackLong))), (a_this_stackOne, .inl (cI, 64, .inl b26_c_this_stackOne))] → va_S A s.heap H locs → ∀ (ls : Array Slot), lv_has ls 10 [(0, .ref a_this), (1, .long b26_l1), (3, .int b26_l3), (4, .int b26_l4)] → W p l e rmX10_treeRank s m args below meth c H locs 0 0 Q (F0 m 26 ls []) := by
    intro n26
    induction n26 with
    | zero => intro b26_l1 b26_l3 b26_l4 b26_c_this_stackLong b26_c_this_stackOne h; exact rk_no h
    | succ n26 ih26 =>
      intro b26_l1 b26_l3 b26_l4 b26_c_this_stackLong b26_c_this_stackOne h H locs hP hD hS ls hl
      have h : fX10_treeRank_L26 c_this_buffer c_this_catalan c_this_of (rk_it5 (fX10_treeRank_L26 c_this_buffer c_this_catalan c_this_of) n26) b26_l1 b26_l3 b26_l4 b26_c_this_stackLong b26_c_this_stackOne = some r0 := h
      unfold fX10_treeRank_L26 at h
      have hR := rk_keep hR0 hn hS
      refine lv_iload hx hb dX10_treeRank_26 (lv_at hl 3 rfl) ?_
      refine lv_aload_n hx hb dX10_treeRank_28 rfl (lv_at hl 0 rfl) ?_
      refine va_get (D := D) (ci := 9) (v := .ref a_this_of) (C := RX10) (T := TX10) (N := 17) hx hb htc inX10 hown hV.1 hR 0 rfl rfl 6 (by decide) (htc _ w_4_4) (fun _ h9 => h9) rfl dX10_treeRank_29 ?_
      refine lv_iconst (v := 0) hx hb dX10_treeRank_32 (by decide) ?_
      refine va_iald hx hb hV.1 hR 3 0 rfl rfl (show vp_in (0 : Int32) 4 from (by decide : ¬ ((0 : Int32) < 0 ∨ 4 ≤ (0 : Int32).toNatClampNeg))) dX10_treeRank_33 ?_
      refine W.eq (g2 := F0 m 34 ls [.int (c_this_of 0), .int b26_l4]) rfl ?_
      refine lv_icmp_ge (tgt := 176) hx hb dX10_treeRank_34 (by decide) (fun hc1 => ?_) (fun hc1 => ?_)
      · have h := rk_if hc1 h
        refine lv_lload_n hx hb dX10_treeRank_176 rfl (lv_at hl 1 rfl) ?_
        exact hret (b26_l1, b26_c_this_stackLong, b26_c_this_stackOne) _ _ _ _ h dX10_treeRank_177 hP hD hS
      · have h := rk_nif hc1 h
        refine lv_iinc (v := (b26_l3 + (-1))) (lv' := [(3, .int (b26_l3 + (-1))), (0, .ref a_this), (1, .long b26_l1), (4, .int b26_l4)]) hx hb dX10_treeRank_37 hl (k := 2) rfl rfl (by decide) rfl (fun ls hl => ?_)
        refine lv_aload_n hx hb dX10_treeRank_40 rfl (lv_at hl 1 rfl) ?_
        refine va_get (D := D) (ci := 9) (v := .ref a_this_stackOne) (C := RX10) (T := TX10) (N := 17) hx hb htc inX10 hown hV.1 hR 0 rfl rfl 9 (by decide) (htc _ w_4_7) (fun _ h9 => h9) rfl dX10_treeRank_41 ?_
        refine lv_iload_n hx hb dX10_treeRank_44 rfl (lv_at hl 0 rfl) ?_
        obtain ⟨hg2, h⟩ := rk_gd h
        refine va_iald hx hb hV.1 hP 1 0 rfl rfl hg2 dX10_treeRank_45 ?_
        refine lv_istore (lv' := [(5, .int (b26_c_this_stackOne (b26_l3 + (-1)).toNatClampNeg)), (3, .int (b26_l3 + (-1))), (0, .ref a_this), (1, .long b26_l1), (4, .int b26_l4)]) hx hb dX10_treeRank_46 hl (by decide) rfl (fun ls hl => ?_)
        refine lv_aload_n hx hb dX10_treeRank_48 rfl (lv_at hl 2 rfl) ?_
        refine va_get (D := D) (ci := 9) (v := .ref a_this_stackLong) (C := RX10) (T := TX10) (N := 17) hx hb htc inX10 hown hV.1 hR 0 rfl rfl 11 (by decide) (htc _ w_4_9) (fun _ h9 => h9) rfl dX10_treeRank_49 ?_
        refine lv_iload_n hx hb dX10_treeRank_52 rfl (lv_at hl 1 rfl) ?_
        refine va_lald hx hb hV.1 hP 0 1 rfl rfl hg2 dX10_treeRank_53 ?_
        refine lv_lstore (lv' := [(6, .long (b26_c_this_stackLong (b26_l3 + (-1)).toNatClampNeg)), (5, .int (b26_c_this_stackOne (b26_l3 + (-1)).toNatClampNeg)), (3, .int (b26_l3 + (-1))), (0, .ref a_this), (1, .long b26_l1), (4, .int b26_l4)]) hx hb dX10_treeRank_54 hl (by decide) rfl (fun ls hl => ?_)
        refine lv_aload_n hx hb dX10_treeRank_56 rfl (lv_at hl 3 rfl) ?_
        refine va_get (D := D) (ci := 9) (v := .ref a_this_buffer) (C := RX10) (T := TX10) (N := 17) hx hb htc inX10 hown hV.1 hR 0 rfl rfl 7 (by decide) (htc _ w_4_5) (fun _ h9 => h9) rfl dX10_treeRank_57 ?_
        refine lv_iload hx hb dX10_treeRank_60 (lv_at hl 5 rfl) ?_
        obtain ⟨hg3, h⟩ := rk_gd h
        refine va_iald hx hb hV.1 hR 1 0 rfl rfl hg3 dX10_treeRank_62 ?_
        refine lv_istore (lv' := [(8, .int (c_this_buffer b26_l4.toNatClampNeg)), (6, .long (b26_c_this_stackLong (b26_l3 + (-1)).toNatClampNeg)), (5, .int (b26_c_this_stackOne (b26_l3 + (-1)).toNatClampNeg)), (3, .int (b26_l3 + (-1))), (0, .ref a_this), (1, .long b26_l1), (4, .int b26_l4)]) hx hb dX10_treeRank_63 hl (by decide) rfl (fun ls hl => ?_)
        refine lv_iconst (v := 0) hx hb dX10_treeRank_65 (by decide) ?_
        refine lv_istore (lv' := [(9, .int (0 : Int32)), (8, .int (c_this_buffer b26_l4.toNatClampNeg)), (6, .long (b26_c_this_stackLong (b26_l3 + (-1)).toNatClampNeg)), (5, .int (b26_c_this_stackOne (b26_l3 + (-1)).toNatClampNeg)), (3, .int (b26_l3 + (-1))), (0, .ref a_this), (1, .long b26_l1), (4, .int b26_l4)]) hx hb dX10_treeRank_66 hl (by decide) rfl (fun ls hl => ?_)
        have L68 : ∀ (n68 : Nat) (b68_l1 : Int64) (b68_l9 : Int32), rk_it2 (fX10_treeRank_L68 c_this_buffer c_this_catalan b26_l3 b26_l4 b26_c_this_stackLong b26_c_this_stackOne (rk_it5 (fX10_treeRank_L26 c_this_buffer c_this_catalan c_this_of) n26)) n68 b68_l1 b68_l9 = some r0 → ∀ (H : Heap) (locs : List Loc), va_P D vwCl [(a_this_stackLong, .inl (cJ, 64, .inr (.inl b26_c_this_stackLong))), (a_this_stackOne, .inl (cI, 64, .inl b26_c_this_stackOne))] H → va_D A [(a_this_stackLong, .inl (cJ, 64, .inr (.inl b26_c_this_stackLong))), (a_this_stackOne, .inl (cI, 64, .inl b26_c_this_stackOne))] → va_S A s.heap H locs → ∀ (ls : Array Slot), lv_has ls 10 [(0, .ref a_this), (1, .long b68_l1), (3, .int (b26_l3 + (-1))), (4, .int b26_l4), (5, .int (b26_c_this_stackOne (b26_l3 + (-1)).toNatClampNeg)), (6, .long (b26_c_this_stackLong (b26_l3 + (-1)).toNatClampNeg)), (8, .int (c_this_buffer b26_l4.toNatClampNeg)), (9, .int b68_l9)] → W p l e rmX10_treeRank s m args below meth c H locs 0 0 Q (F0 m 68 ls []) := by
          intro n68
          induction n68 with
          | zero => intro b68_l1 b68_l9 h; exact rk_no h
          | succ n68 ih68 =>
            intro b68_l1 b68_l9 h H locs hP hD hS ls hl
            have h : fX10_treeRank_L68 c_this_buffer c_this_catalan b26_l3 b26_l4 b26_c_this_stackLong b26_c_this_stackOne (rk_it5 (fX10_treeRank_L26 c_this_buffer c_this_catalan c_this_of) n26) (rk_it2 (fX10_treeRank_L68 c_this_buffer c_this_catalan b26_l3 b26_l4 b26_c_this_stackLong b26_c_this_stackOne (rk_it5 (fX10_treeRank_L26 c_this_buffer c_this_catalan c_this_of) n26)) n68) b68_l1 b68_l9 = some r0 := h
            unfold fX10_treeRank_L68 at h
            have hR := rk_keep hR0 hn hS
            refine lv_iload hx hb dX10_treeRank_68 (lv_at hl 7 rfl) ?_
            refine lv_iload hx hb dX10_treeRank_70 (lv_at hl 6 rfl) ?_
            refine lv_icmp_ge (tgt := 107) hx hb dX10_treeRank_72 (by decide) (fun hc4 => ?_) (fun hc4 => ?_)
            · have h := rk_if hc4 h
              refine lv_iload hx hb dX10_treeRank_107 (lv_at hl 4 rfl) ?_
              refine lv_iconst (v := 1) hx hb dX10_treeRank_109 (by decide) ?_
              refine lv_isub hx hb dX10_treeRank_110 ?_
              refine lv_iload hx hb dX10_treeRank_111 (lv_at hl 6 rfl) ?_
              refine lv_isub hx hb dX10_treeRank_113 ?_
              have B133 : ∀ (b133_l3 : Int32) (b133_c_this_stackOne : Nat → Int32), fX10_treeRank_B133 c_this_buffer c_this_catalan b26_l3 b26_l4 b26_c_this_stackLong b26_c_this_stackOne (rk_it5 (fX10_treeRank_L26 c_this_buffer c_this_catalan c_this_of) n26) b68_l1 b133_l3 b133_c_this_stackOne = some r0 → ∀ (H : Heap) (locs : List Loc), va_P D vwCl [(a_this_stackLong, .inl (cJ, 64, .inr (.inl b26_c_this_stackLong))), (a_this_stackOne, .inl (cI, 64, .inl b133_c_this_stackOne))] H → va_D A [(a_this_stackLong, .inl (cJ, 64, .inr (.inl b26_c_this_stackLong))), (a_this_stackOne, .inl (cI, 64, .inl b133_c_this_stackOne))] → va_S A s.heap H locs → ∀ (ls : Array Slot), lv_has ls 10 [(0, .ref a_this), (1, .long b68_l1), (3, .int b133_l3), (4, .int b26_l4), (5, .int (b26_c_this_stackOne (b26_l3 + (-1)).toNatClampNeg)), (6, .long (b26_c_this_stackLong (b26_l3 + (-1)).toNatClampNeg)), (8, .int (c_this_buffer b26_l4.toNatClampNeg))] → W p l e rmX10_treeRank s m args below meth c H locs 0 0 Q (F0 m 133 ls []) := by
                intro b133_l3 b133_c_this_stackOne h H locs hP hD hS ls hl
                unfold fX10_treeRank_B133 at h
                have hR := rk_keep hR0 hn hS
                refine lv_iload hx hb dX10_treeRank_133 (lv_at hl 6 rfl) ?_
                have B170 : ∀ (b170_l3 : Int32) (b170_c_this_stackLong : Nat → Int64) (b170_c_this_stackOne : Nat → Int32), fX10_treeRank_B170 b26_l4 (rk_it5 (fX10_treeRank_L26 c_this_buffer c_this_catalan c_this_of) n26) b68_l1 b170_l3 b170_c_this_stackLong b170_c_this_stackOne = some r0 → ∀ (H : Heap) (locs : List Loc), va_P D vwCl [(a_this_stackLong, .inl (cJ, 64, .inr (.inl b170_c_this_stackLong))), (a_this_stackOne, .inl (cI, 64, .inl b170_c_this_stackOne))] H → va_D A [(a_this_stackLong, .inl (cJ, 64, .inr (.inl b170_c_this_stackLong))), (a_this_stackOne, .inl (cI, 64, .inl b170_c_this_stackOne))] → va_S A s.heap H locs → ∀ (ls : Array Slot), lv_has ls 10 [(0, .ref a_this), (1, .long b68_l1), (3, .int b170_l3), (4, .int b26_l4)] → W p l e rmX10_treeRank s m args below meth c H locs 0 0 Q (F0 m 170 ls []) := by
                  intro b170_l3 b170_c_this_stackLong b170_c_this_stackOne h H locs hP hD hS ls hl
                  unfold fX10_treeRank_B170 at h
                  have hR := rk_keep hR0 hn hS
                  refine lv_iinc (v := (b26_l4 + 1)) (lv' := [(4, .int (b26_l4 + 1)), (0, .ref a_this), (1, .long b68_l1), (3, .int b170_l3)]) hx hb dX10_treeRank_170 hl (k := 3) rfl rfl (by decide) rfl (fun ls hl => ?_)
                  refine lv_goto (tgt := 26) hx hb dX10_treeRank_173 (by decide) ?_
                  exact ih26 b68_l1 b170_l3 (b26_l4 + 1) b170_c_this_stackLong b170_c_this_stackOne h _ _ hP hD hS _ (lv_sub hl [1, 2, 3, 0] rfl)
                refine lv_if_le (tgt := 170) hx hb dX10_treeRank_135 (by decide) (fun hc5 => ?_) (fun hc5 => ?_)
                · have h := rk_if hc5 h
                  exact B170 b133_l3 b26_c_this_stackLong b133_c_this_stackOne h _ _ hP hD hS _ (lv_sub hl [0, 1, 2, 3] rfl)
                · have h := rk_nif hc5 h
                  refine lv_aload_n hx hb dX10_treeRank_138 rfl (lv_at hl 0 rfl) ?_
                  refine va_get (D := D) (ci := 9) (v := .ref a_this_stackOne) (C := RX10) (T := TX10) (N := 17) hx hb htc inX10 hown hV.1 hR 0 rfl rfl 9 (by decide) (htc _ w_4_7) (fun _ h9 => h9) rfl dX10_treeRank_139 ?_
                  refine lv_iload_n hx hb dX10_treeRank_142 rfl (lv_at hl 2 rfl) ?_
                  refine lv_iload hx hb dX10_treeRank_143 (lv_at hl 6 rfl) ?_
                  obtain ⟨hg6, h⟩ := rk_gd h
                  refine va_iast hx hb hV.1 hP hD hS 1 0 rfl rfl hg6 dX10_treeRank_145 (fun H locs hP hD hS => ?_)
                  have hP : va_P D vwCl [(a_this_stackLong, .inl (cJ, 64, .inr (.inl b26_c_this_stackLong))), (a_this_stackOne, .inl (cI, 64, .inl (upd b133_c_this_stackOne b133_l3.toNatClampNeg (c_this_buffer b26_l4.toNatClampNeg))))] H := hP
                  have hD : va_D A [(a_this_stackLong, .inl (cJ, 64, .inr (.inl b26_c_this_stackLong))), (a_this_stackOne, .inl (cI, 64, .inl (upd b133_c_this_stackOne b133_l3.toNatClampNeg (c_this_buffer b26_l4.toNatClampNeg))))] := hD
                  have hR := rk_keep hR0 hn hS
                  refine lv_aload_n hx hb dX10_treeRank_146 rfl (lv_at hl 0 rfl) ?_
                  refine va_get (D := D) (ci := 9) (v := .ref a_this_stackLong) (C := RX10) (T := TX10) (N := 17) hx hb htc inX10 hown hV.1 hR 0 rfl rfl 11 (by decide) (htc _ w_4_9) (fun _ h9 => h9) rfl dX10_treeRank_147 ?_
                  refine lv_iload_n hx hb dX10_treeRank_150 rfl (lv_at hl 2 rfl) ?_
                  refine lv_lload hx hb dX10_treeRank_151 (lv_at hl 5 rfl) ?_
                  refine lv_aload_n hx hb dX10_treeRank_153 rfl (lv_at hl 0 rfl) ?_
                  refine va_get (D := D) (ci := 9) (v := .ref a_this_catalan) (C := RX10) (T := TX10) (N := 17) hx hb htc inX10 hown hV.1 hR 0 rfl rfl 2 (by decide) (htc _ w_4_0) (fun _ h9 => h9) rfl dX10_treeRank_154 ?_
                  refine lv_iload hx hb dX10_treeRank_157 (lv_at hl 4 rfl) ?_
                  refine lv_iconst (v := 1) hx hb dX10_treeRank_159 (by decide) ?_
                  refine lv_isub hx hb dX10_treeRank_160 ?_
                  refine lv_iload hx hb dX10_treeRank_161 (lv_at hl 6 rfl) ?_
                  refine lv_isub hx hb dX10_treeRank_163 ?_
                  obtain ⟨hg7, h⟩ := rk_gd h
                  refine va_lald hx hb hV.1 hR 2 1 rfl rfl hg7 dX10_treeRank_164 ?_
                  refine lv_lmul hx hb dX10_treeRank_165 ?_
                  refine va_last hx hb hV.1 hP hD hS 0 1 rfl rfl hg6 dX10_treeRank_166 (fun H locs hP hD hS => ?_)
                  have hP : va_P D vwCl [(a_this_stackLong, .inl (cJ, 64, .inr (.inl (vp_updL b26_c_this_stackLong b133_l3.toNatClampNeg ((b26_c_this_stackLong (b26_l3 + (-1)).toNatClampNeg) * (c_this_catalan (((b26_c_this_stackOne (b26_l3 + (-1)).toNatClampNeg) - (1 : Int32)) - (c_this_buffer b26_l4.toNatClampNeg)).toNatClampNeg)))))), (a_this_stackOne, .inl (cI, 64, .inl (upd b133_c_this_stackOne b133_l3.toNatClampNeg (c_this_buffer b26_l4.toNatClampNeg))))] H := hP
                  have hD : va_D A [(a_this_stackLong, .inl (cJ, 64, .inr (.inl (vp_updL b26_c_this_stackLong b133_l3.toNatClampNeg ((b26_c_this_stackLong (b26_l3 + (-1)).toNatClampNeg) * (c_this_catalan (((b26_c_this_stackOne (b26_l3 + (-1)).toNatClampNeg) - (1 : Int32)) - (c_this_buffer b26_l4.toNatClampNeg)).toNatClampNeg)))))), (a_this_stackOne, .inl (cI, 64, .inl (upd b133_c_this_stackOne b133_l3.toNatClampNeg (c_this_buffer b26_l4.toNatClampNeg))))] := hD
                  have hR := rk_keep hR0 hn hS
                  refine lv_iinc (v := (b133_l3 + 1)) (lv' := [(3, .int (b133_l3 + 1)), (0, .ref a_this), (1, .long b68_l1), (4, .int b26_l4), (5, .int (b26_c_this_stackOne (b26_l3 + (-1)).toNatClampNeg)), (6, .long (b26_c_this_stackLong (b26_l3 + (-1)).toNatClampNeg)), (8, .int (c_this_buffer b26_l4.toNatClampNeg))]) hx hb dX10_treeRank_167 hl (k := 2) rfl rfl (by decide) rfl (fun ls hl => ?_)
                  exact B170 (b133_l3 + 1) (vp_updL b26_c_this_stackLong b133_l3.toNatClampNeg ((b26_c_this_stackLong (b26_l3 + (-1)).toNatClampNeg) * (c_this_catalan (((b26_c_this_stackOne (b26_l3 + (-1)).toNatClampNeg) - (1 : Int32)) - (c_this_buffer b26_l4.toNatClampNeg)).toNatClampNeg))) (upd b133_c_this_stackOne b133_l3.toNatClampNeg (c_this_buffer b26_l4.toNatClampNeg)) h _ _ hP hD hS _ (lv_sub hl [1, 2, 0, 3] rfl)
              refine lv_if_le (tgt := 133) hx hb dX10_treeRank_114 (by decide) (fun hc8 => ?_) (fun hc8 => ?_)
              · have h := rk_if hc8 h
                exact B133 (b26_l3 + (-1)) b26_c_this_stackOne h _ _ hP hD hS _ (lv_sub hl [0, 1, 2, 3, 4, 5, 6] rfl)
              · have h := rk_nif hc8 h
                refine lv_aload_n hx hb dX10_treeRank_117 rfl (lv_at hl 0 rfl) ?_
                refine va_get (D := D) (ci := 9) (v := .ref a_this_stackOne) (C := RX10) (T := TX10) (N := 17) hx hb htc inX10 hown hV.1 hR 0 rfl rfl 9 (by decide) (htc _ w_4_7) (fun _ h9 => h9) rfl dX10_treeRank_118 ?_
                refine lv_iload_n hx hb dX10_treeRank_121 rfl (lv_at hl 2 rfl) ?_
                refine lv_iload hx hb dX10_treeRank_122 (lv_at hl 4 rfl) ?_
                refine lv_iconst (v := 1) hx hb dX10_treeRank_124 (by decide) ?_
                refine lv_isub hx hb dX10_treeRank_125 ?_
                refine lv_iload hx hb dX10_treeRank_126 (lv_at hl 6 rfl) ?_
                refine lv_isub hx hb dX10_treeRank_128 ?_
                refine va_iast hx hb hV.1 hP hD hS 1 0 rfl rfl hg2 dX10_treeRank_129 (fun H locs hP hD hS => ?_)
                have hP : va_P D vwCl [(a_this_stackLong, .inl (cJ, 64, .inr (.inl b26_c_this_stackLong))), (a_this_stackOne, .inl (cI, 64, .inl (upd b26_c_this_stackOne (b26_l3 + (-1)).toNatClampNeg (((b26_c_this_stackOne (b26_l3 + (-1)).toNatClampNeg) - (1 : Int32)) - (c_this_buffer b26_l4.toNatClampNeg)))))] H := hP
                have hD : va_D A [(a_this_stackLong, .inl (cJ, 64, .inr (.inl b26_c_this_stackLong))), (a_this_stackOne, .inl (cI, 64, .inl (upd b26_c_this_stackOne (b26_l3 + (-1)).toNatClampNeg (((b26_c_this_stackOne (b26_l3 + (-1)).toNatClampNeg) - (1 : Int32)) - (c_this_buffer b26_l4.toNatClampNeg)))))] := hD
                have hR := rk_keep hR0 hn hS
                refine lv_iinc (v := ((b26_l3 + (-1)) + 1)) (lv' := [(3, .int ((b26_l3 + (-1)) + 1)), (0, .ref a_this), (1, .long b68_l1), (4, .int b26_l4), (5, .int (b26_c_this_stackOne (b26_l3 + (-1)).toNatClampNeg)), (6, .long (b26_c_this_stackLong (b26_l3 + (-1)).toNatClampNeg)), (8, .int (c_this_buffer b26_l4.toNatClampNeg)), (9, .int b68_l9)]) hx hb dX10_treeRank_130 hl (k := 2) rfl rfl (by decide) rfl (fun ls hl => ?_)
                exact B133 ((b26_l3 + (-1)) + 1) (upd b26_c_this_stackOne (b26_l3 + (-1)).toNatClampNeg (((b26_c_this_stackOne (b26_l3 + (-1)).toNatClampNeg) - (1 : Int32)) - (c_this_buffer b26_l4.toNatClampNeg))) h _ _ hP hD hS _ (lv_sub hl [1, 2, 0, 3, 4, 5, 6] rfl)
            · have h := rk_nif hc4 h
              refine lv_lload_n hx hb dX10_treeRank_75 rfl (lv_at hl 1 rfl) ?_
              refine lv_lload hx hb dX10_treeRank_76 (lv_at hl 5 rfl) ?_
              refine lv_aload_n hx hb dX10_treeRank_78 rfl (lv_at hl 0 rfl) ?_
              refine va_get (D := D) (ci := 9) (v := .ref a_this_catalan) (C := RX10) (T := TX10) (N := 17) hx hb htc inX10 hown hV.1 hR 0 rfl rfl 2 (by decide) (htc _ w_4_0) (fun _ h9 => h9) rfl dX10_treeRank_79 ?_
              refine lv_iload hx hb dX10_treeRank_82 (lv_at hl 7 rfl) ?_
              obtain ⟨hg9, h⟩ := rk_gd h
              refine va_lald hx hb hV.1 hR 2 1 rfl rfl hg9 dX10_treeRank_84 ?_
              refine lv_lmul hx hb dX10_treeRank_85 ?_
              refine lv_aload_n hx hb dX10_treeRank_86 rfl (lv_at hl 0 rfl) ?_
              refine va_get (D := D) (ci := 9) (v := .ref a_this_catalan) (C := RX10) (T := TX10) (N := 17) hx hb htc inX10 hown hV.1 hR 0 rfl rfl 2 (by decide) (htc _ w_4_0) (fun _ h9 => h9) rfl dX10_treeRank_87 ?_
              refine lv_iload hx hb dX10_treeRank_90 (lv_at hl 4 rfl) ?_
              refine lv_iconst (v := 1) hx hb dX10_treeRank_92 (by decide) ?_
              refine lv_isub hx hb dX10_treeRank_93 ?_
              refine lv_iload hx hb dX10_treeRank_94 (lv_at hl 7 rfl) ?_
              refine lv_isub hx hb dX10_treeRank_96 ?_
              obtain ⟨hg10, h⟩ := rk_gd h
              refine va_lald hx hb hV.1 hR 2 1 rfl rfl hg10 dX10_treeRank_97 ?_
              refine lv_lmul hx hb dX10_treeRank_98 ?_
              refine lv_ladd hx hb dX10_treeRank_99 ?_
              refine lv_lstore_n (lv' := [(1, .long (b68_l1 + (((b26_c_this_stackLong (b26_l3 + (-1)).toNatClampNeg) * (c_this_catalan b68_l9.toNatClampNeg)) * (c_this_catalan (((b26_c_this_stackOne (b26_l3 + (-1)).toNatClampNeg) - (1 : Int32)) - b68_l9).toNatClampNeg)))), (0, .ref a_this), (3, .int (b26_l3 + (-1))), (4, .int b26_l4), (5, .int (b26_c_this_stackOne (b26_l3 + (-1)).toNatClampNeg)), (6, .long (b26_c_this_stackLong (b26_l3 + (-1)).toNatClampNeg)), (8, .int (c_this_buffer b26_l4.toNatClampNeg)), (9, .int b68_l9)]) hx hb dX10_treeRank_100 rfl hl (by decide) rfl (fun ls hl => ?_)
              refine lv_iinc (v := (b68_l9 + 1)) (lv' := [(9, .int (b68_l9 + 1)), (1, .long (b68_l1 + (((b26_c_this_stackLong (b26_l3 + (-1)).toNatClampNeg) * (c_this_catalan b68_l9.toNatClampNeg)) * (c_this_catalan (((b26_c_this_stackOne (b26_l3 + (-1)).toNatClampNeg) - (1 : Int32)) - b68_l9).toNatClampNeg)))), (0, .ref a_this), (3, .int (b26_l3 + (-1))), (4, .int b26_l4), (5, .int (b26_c_this_stackOne (b26_l3 + (-1)).toNatClampNeg)), (6, .long (b26_c_this_stackLong (b26_l3 + (-1)).toNatClampNeg)), (8, .int (c_this_buffer b26_l4.toNatClampNeg))]) hx hb dX10_treeRank_101 hl (k := 7) rfl rfl (by decide) rfl (fun ls hl => ?_)
              refine lv_goto (tgt := 68) hx hb dX10_treeRank_104 (by decide) ?_
              exact ih68 (b68_l1 + (((b26_c_this_stackLong (b26_l3 + (-1)).toNatClampNeg) * (c_this_catalan b68_l9.toNatClampNeg)) * (c_this_catalan (((b26_c_this_stackOne (b26_l3 + (-1)).toNatClampNeg) - (1 : Int32)) - b68_l9).toNatClampNeg))) (b68_l9 + 1) h _ _ hP hD hS _ (lv_sub hl [2, 1, 3, 4, 5, 6, 7, 0] rfl)
        exact L68 FU b26_l1 (0 : Int32) h _ _ hP hD hS _ (lv_sub hl [5, 6, 4, 7, 3, 2, 1, 0] rfl)
  exact L26 FU (0 : Int64) (1 : Int32) (0 : Int32) (vp_updL c_this_stackLong 0 (1 : Int64)) (upd c_this_stackOne 0 (c_this_of 0)) h _ _ hP hD hS _ (lv_sub hl [3, 2, 1, 0] rfl)
set_option maxHeartbeats 4000000 in
set_option maxRecDepth 100000 in
theorem mtX10_partitionRank (l : Launch) (D : va_G) (cI cJ cO : ClassId) (PL : va_W) (sz : Nat) (a_this : Nat) (a_this_chosen : Nat) (a_this_factorial : Nat) (a_this_catalan : Nat) (a_this_parted : Nat) (a_this_closed : Nat) (f_this_now : Int32) (a_this_of : Nat) (a_this_buffer : Nat) (a_this_made : Nat) (a_this_stackOne : Nat) (a_this_stackOther : Nat) (a_this_stackLong : Nat) (a_this_left : Nat) (f_this_entryMany : Int32) (a_this_entryFamily : Nat) (a_this_entryOf : Nat) (a_this_entryRank : Nat) (c_this_buffer : Nat → Int32) (c_this_of : Nat → Int32) (c_this_parted : Nat → Int64) (r0 : Int64) (h : fX10_partitionRank c_this_buffer c_this_of c_this_parted = some r0) : Met l yX10_partitionRank (rk_w yX10_partitionRank cX10_partitionRank 6 (some .long)) rmX10_partitionRank (va_Pc [.ref a_this] (rk_B D (rk_TY cI cJ cO) [] [(a_this, .inr (9, [.ref a_this_chosen, .ref a_this_factorial, .ref a_this_catalan, .ref a_this_parted, .ref a_this_closed, .int f_this_now, .ref a_this_of, .ref a_this_buffer, .ref a_this_made, .ref a_this_stackOne, .ref a_this_stackOther, .ref a_this_stackLong, .ref a_this_left, .int f_this_entryMany, .ref a_this_entryFamily, .ref a_this_entryOf, .ref a_this_entryRank])), (a_this_buffer, .inl (cI, 60, .inl c_this_buffer)), (a_this_of, .inl (cI, 4, .inl c_this_of)), (a_this_parted, .inl (cJ, 3721, .inr (.inl c_this_parted)))] PL sz)) (rk_Ql r0 D [] [] sz) 0 0 (va_A [] sz) := by
  refine rk_metl h (fun x : Int64 => x) (fun x => []) (by decide) (Nat.le_of_ble_eq_true rfl) ?_
  intro p e s m args below meth c A ls Q hret hname hF hP hD hA hV hR0 hn hPL hnl hl h hS
  have hx := hF.1
  have hb := hF.2.1
  have hml := hF.2.2.1
  have hown : s.vm.findClass RX10 = some m.cls := hF.2.2.2.1
  have htc := hF.2.2.2.2
  have hP : va_P D vwCl [] s.heap := hP
  have hD : va_D A [] := hD
  have hR0 : va_P D vwCl [(a_this, .inr (9, [.ref a_this_chosen, .ref a_this_factorial, .ref a_this_catalan, .ref a_this_parted, .ref a_this_closed, .int f_this_now, .ref a_this_of, .ref a_this_buffer, .ref a_this_made, .ref a_this_stackOne, .ref a_this_stackOther, .ref a_this_stackLong, .ref a_this_left, .int f_this_entryMany, .ref a_this_entryFamily, .ref a_this_entryOf, .ref a_this_entryRank])), (a_this_buffer, .inl (cI, 60, .inl c_this_buffer)), (a_this_of, .inl (cI, 4, .inl c_this_of)), (a_this_parted, .inl (cJ, 3721, .inr (.inl c_this_parted)))] s.heap := hR0
  have hR := hR0
  have hl : lv_has ls 6 [(0, .ref a_this)] := hl
  unfold fX10_partitionRank at h
  refine lv_lconst (v := 0) hx hb dX10_partitionRank_0 (by decide) ?_
  refine lv_lstore_n (lv' := [(1, .long (0 : Int64)), (0, .ref a_this)]) hx hb dX10_partitionRank_1 rfl hl (by decide) rfl (fun ls hl => ?_)
  refine lv_aload_n hx hb dX10_partitionRank_2 rfl (lv_at hl 1 rfl) ?_
  refine va_get (D := D) (ci := 9) (v := .ref a_this_of) (C := RX10) (T := TX10) (N := 17) hx hb htc inX10 hown hV.1 hR 0 rfl rfl 6 (by decide) (htc _ w_4_4) (fun _ h9 => h9) rfl dX10_partitionRank_3 ?_
  refine lv_iconst (v := 0) hx hb dX10_partitionRank_6 (by decide) ?_
  refine va_iald hx hb hV.1 hR 2 0 rfl rfl (show vp_in (0 : Int32) 4 from (by decide : ¬ ((0 : Int32) < 0 ∨ 4 ≤ (0 : Int32).toNatClampNeg))) dX10_partitionRank_7 ?_
  refine W.eq (g2 := F0 m 8 ls [.int (c_this_of 0)]) rfl ?_
  refine lv_istore_n (lv' := [(3, .int (c_this_of 0)), (1, .long (0 : Int64)), (0, .ref a_this)]) hx hb dX10_partitionRank_8 rfl hl (by decide) rfl (fun ls hl => ?_)
  refine lv_iconst (v := 0) hx hb dX10_partitionRank_9 (by decide) ?_
  refine lv_istore (lv' := [(4, .int (0 : Int32)), (3, .int (c_this_of 0)), (1, .long (0 : Int64)), (0, .ref a_this)]) hx hb dX10_partitionRank_10 hl (by decide) rfl (fun ls hl => ?_)
  have L12 : ∀ (n12 : Nat) (b12_l1 : Int64) (b12_l3 : Int32) (b12_l4 : Int32), rk_it3 (fX10_partitionRank_L12 c_this_buffer c_this_of c_this_parted) n12 b12_l1 b12_l3 b12_l4 = some r0 → ∀ (H : Heap) (locs : List Loc), va_P D vwCl [] H → va_D A [] → va_S A s.heap H locs → ∀ (ls : Array Slot), lv_has ls 6 [(0, .ref a_this), (1, .long b12_l1), (3, .int b12_l3), (4, .int b12_l4)] → W p l e rmX10_partitionRank s m args below meth c H locs 0 0 Q (F0 m 12 ls []) := by
    intro n12
    induction n12 with
    | zero => intro b12_l1 b12_l3 b12_l4 h; exact rk_no h
    | succ n12 ih12 =>
      intro b12_l1 b12_l3 b12_l4 h H locs hP hD hS ls hl
      have h : fX10_partitionRank_L12 c_this_buffer c_this_of c_this_parted (rk_it3 (fX10_partitionRank_L12 c_this_buffer c_this_of c_this_parted) n12) b12_l1 b12_l3 b12_l4 = some r0 := h
      unfold fX10_partitionRank_L12 at h
      have hR := rk_keep hR0 hn hS
      refine lv_iload hx hb dX10_partitionRank_12 (lv_at hl 3 rfl) ?_
      refine lv_aload_n hx hb dX10_partitionRank_14 rfl (lv_at hl 0 rfl) ?_
      refine va_get (D := D) (ci := 9) (v := .ref a_this_of) (C := RX10) (T := TX10) (N := 17) hx hb htc inX10 hown hV.1 hR 0 rfl rfl 6 (by decide) (htc _ w_4_4) (fun _ h9 => h9) rfl dX10_partitionRank_15 ?_
      refine lv_iconst (v := 0) hx hb dX10_partitionRank_18 (by decide) ?_
      refine va_iald hx hb hV.1 hR 2 0 rfl rfl (show vp_in (0 : Int32) 4 from (by decide : ¬ ((0 : Int32) < 0 ∨ 4 ≤ (0 : Int32).toNatClampNeg))) dX10_partitionRank_19 ?_
      refine W.eq (g2 := F0 m 20 ls [.int (c_this_of 0), .int b12_l4]) rfl ?_
      refine lv_icmp_ge (tgt := 78) hx hb dX10_partitionRank_20 (by decide) (fun hc1 => ?_) (fun hc1 => ?_)
      · have h := rk_if hc1 h
        refine lv_lload_n hx hb dX10_partitionRank_78 rfl (lv_at hl 1 rfl) ?_
        exact hret b12_l1 _ _ _ _ h dX10_partitionRank_79 hP hD hS
      · have h := rk_nif hc1 h
        refine lv_iconst (v := 0) hx hb dX10_partitionRank_23 (by decide) ?_
        refine lv_istore (lv' := [(5, .int (0 : Int32)), (0, .ref a_this), (1, .long b12_l1), (3, .int b12_l3), (4, .int b12_l4)]) hx hb dX10_partitionRank_24 hl (by decide) rfl (fun ls hl => ?_)
        have L26 : ∀ (n26 : Nat) (b26_l1 : Int64) (b26_l5 : Int32), rk_it2 (fX10_partitionRank_L26 c_this_buffer c_this_parted b12_l3 b12_l4 (rk_it3 (fX10_partitionRank_L12 c_this_buffer c_this_of c_this_parted) n12)) n26 b26_l1 b26_l5 = some r0 → ∀ (H : Heap) (locs : List Loc), va_P D vwCl [] H → va_D A [] → va_S A s.heap H locs → ∀ (ls : Array Slot), lv_has ls 6 [(0, .ref a_this), (1, .long b26_l1), (3, .int b12_l3), (4, .int b12_l4), (5, .int b26_l5)] → W p l e rmX10_partitionRank s m args below meth c H locs 0 0 Q (F0 m 26 ls []) := by
          intro n26
          induction n26 with
          | zero => intro b26_l1 b26_l5 h; exact rk_no h
          | succ n26 ih26 =>
            intro b26_l1 b26_l5 h H locs hP hD hS ls hl
            have h : fX10_partitionRank_L26 c_this_buffer c_this_parted b12_l3 b12_l4 (rk_it3 (fX10_partitionRank_L12 c_this_buffer c_this_of c_this_parted) n12) (rk_it2 (fX10_partitionRank_L26 c_this_buffer c_this_parted b12_l3 b12_l4 (rk_it3 (fX10_partitionRank_L12 c_this_buffer c_this_of c_this_parted) n12)) n26) b26_l1 b26_l5 = some r0 := h
            unfold fX10_partitionRank_L26 at h
            have hR := rk_keep hR0 hn hS
            refine lv_iload hx hb dX10_partitionRank_26 (lv_at hl 4 rfl) ?_
            refine lv_aload_n hx hb dX10_partitionRank_28 rfl (lv_at hl 0 rfl) ?_
            refine va_get (D := D) (ci := 9) (v := .ref a_this_buffer) (C := RX10) (T := TX10) (N := 17) hx hb htc inX10 hown hV.1 hR 0 rfl rfl 7 (by decide) (htc _ w_4_5) (fun _ h9 => h9) rfl dX10_partitionRank_29 ?_
            refine lv_iload hx hb dX10_partitionRank_32 (lv_at hl 3 rfl) ?_
            obtain ⟨hg2, h⟩ := rk_gd h
            refine va_iald hx hb hV.1 hR 1 0 rfl rfl hg2 dX10_partitionRank_34 ?_
            refine lv_icmp_ge (tgt := 62) hx hb dX10_partitionRank_35 (by decide) (fun hc3 => ?_) (fun hc3 => ?_)
            · have h := rk_if hc3 h
              refine lv_iload_n hx hb dX10_partitionRank_62 rfl (lv_at hl 2 rfl) ?_
              refine lv_aload_n hx hb dX10_partitionRank_63 rfl (lv_at hl 0 rfl) ?_
              refine va_get (D := D) (ci := 9) (v := .ref a_this_buffer) (C := RX10) (T := TX10) (N := 17) hx hb htc inX10 hown hV.1 hR 0 rfl rfl 7 (by decide) (htc _ w_4_5) (fun _ h9 => h9) rfl dX10_partitionRank_64 ?_
              refine lv_iload hx hb dX10_partitionRank_67 (lv_at hl 3 rfl) ?_
              refine va_iald hx hb hV.1 hR 1 0 rfl rfl hg2 dX10_partitionRank_69 ?_
              refine lv_isub hx hb dX10_partitionRank_70 ?_
              refine lv_istore_n (lv' := [(3, .int (b12_l3 - (c_this_buffer b12_l4.toNatClampNeg))), (0, .ref a_this), (1, .long b26_l1), (4, .int b12_l4), (5, .int b26_l5)]) hx hb dX10_partitionRank_71 rfl hl (by decide) rfl (fun ls hl => ?_)
              refine lv_iinc (v := (b12_l4 + 1)) (lv' := [(4, .int (b12_l4 + 1)), (3, .int (b12_l3 - (c_this_buffer b12_l4.toNatClampNeg))), (0, .ref a_this), (1, .long b26_l1), (5, .int b26_l5)]) hx hb dX10_partitionRank_72 hl (k := 3) rfl rfl (by decide) rfl (fun ls hl => ?_)
              refine lv_goto (tgt := 12) hx hb dX10_partitionRank_75 (by decide) ?_
              exact ih12 b26_l1 (b12_l3 - (c_this_buffer b12_l4.toNatClampNeg)) (b12_l4 + 1) h _ _ hP hD hS _ (lv_sub hl [2, 3, 1, 0] rfl)
            · have h := rk_nif hc3 h
              refine lv_lload_n hx hb dX10_partitionRank_38 rfl (lv_at hl 1 rfl) ?_
              refine lv_aload_n hx hb dX10_partitionRank_39 rfl (lv_at hl 0 rfl) ?_
              refine va_get (D := D) (ci := 9) (v := .ref a_this_parted) (C := RX10) (T := TX10) (N := 17) hx hb htc inX10 hown hV.1 hR 0 rfl rfl 3 (by decide) (htc _ w_4_1) (fun _ h9 => h9) rfl dX10_partitionRank_40 ?_
              refine lv_bipush (v := 61) hx hb dX10_partitionRank_43 (by decide) ?_
              refine lv_iload hx hb dX10_partitionRank_45 (lv_at hl 4 rfl) ?_
              refine lv_imul hx hb dX10_partitionRank_47 ?_
              refine lv_iload_n hx hb dX10_partitionRank_48 rfl (lv_at hl 2 rfl) ?_
              refine lv_iadd hx hb dX10_partitionRank_49 ?_
              refine lv_iload hx hb dX10_partitionRank_50 (lv_at hl 4 rfl) ?_
              refine lv_isub hx hb dX10_partitionRank_52 ?_
              obtain ⟨hg4, h⟩ := rk_gd h
              refine va_lald hx hb hV.1 hR 3 1 rfl rfl hg4 dX10_partitionRank_53 ?_
              refine lv_ladd hx hb dX10_partitionRank_54 ?_
              refine lv_lstore_n (lv' := [(1, .long (b26_l1 + (c_this_parted ((((61 : Int32) * b26_l5) + b12_l3) - b26_l5).toNatClampNeg))), (0, .ref a_this), (3, .int b12_l3), (4, .int b12_l4), (5, .int b26_l5)]) hx hb dX10_partitionRank_55 rfl hl (by decide) rfl (fun ls hl => ?_)
              refine lv_iinc (v := (b26_l5 + 1)) (lv' := [(5, .int (b26_l5 + 1)), (1, .long (b26_l1 + (c_this_parted ((((61 : Int32) * b26_l5) + b12_l3) - b26_l5).toNatClampNeg))), (0, .ref a_this), (3, .int b12_l3), (4, .int b12_l4)]) hx hb dX10_partitionRank_56 hl (k := 4) rfl rfl (by decide) rfl (fun ls hl => ?_)
              refine lv_goto (tgt := 26) hx hb dX10_partitionRank_59 (by decide) ?_
              exact ih26 (b26_l1 + (c_this_parted ((((61 : Int32) * b26_l5) + b12_l3) - b26_l5).toNatClampNeg)) (b26_l5 + 1) h _ _ hP hD hS _ (lv_sub hl [2, 1, 3, 4, 0] rfl)
        exact L26 FU b12_l1 (0 : Int32) h _ _ hP hD hS _ (lv_sub hl [1, 2, 3, 4, 0] rfl)
  exact L12 FU (0 : Int64) (c_this_of 0) (0 : Int32) h _ _ hP hD hS _ (lv_sub hl [3, 2, 1, 0] rfl)
set_option maxHeartbeats 4000000 in
set_option maxRecDepth 100000 in
theorem mtX10_arrangementRank (l : Launch) (D : va_G) (cI cJ cO : ClassId) (PL : va_W) (sz : Nat) (a_this : Nat) (a_this_chosen : Nat) (a_this_factorial : Nat) (a_this_catalan : Nat) (a_this_parted : Nat) (a_this_closed : Nat) (f_this_now : Int32) (a_this_of : Nat) (a_this_buffer : Nat) (a_this_made : Nat) (a_this_stackOne : Nat) (a_this_stackOther : Nat) (a_this_stackLong : Nat) (a_this_left : Nat) (f_this_entryMany : Int32) (a_this_entryFamily : Nat) (a_this_entryOf : Nat) (a_this_entryRank : Nat) (c_this_left : Nat → Int32) (c_this_buffer : Nat → Int32) (c_this_chosen : Nat → Int64) (c_this_of : Nat → Int32) (r0 : Int64 × (Nat → Int32)) (h : fX10_arrangementRank f_this_now c_this_left c_this_buffer c_this_chosen c_this_of = some r0) : Met l yX10_arrangementRank (rk_w yX10_arrangementRank cX10_arrangementRank 5 (some .long)) rmX10_arrangementRank (va_Pc [.ref a_this] (rk_B D (rk_TY cI cJ cO) [(a_this_left, .inl (cI, 4, .inl c_this_left))] [(a_this, .inr (9, [.ref a_this_chosen, .ref a_this_factorial, .ref a_this_catalan, .ref a_this_parted, .ref a_this_closed, .int f_this_now, .ref a_this_of, .ref a_this_buffer, .ref a_this_made, .ref a_this_stackOne, .ref a_this_stackOther, .ref a_this_stackLong, .ref a_this_left, .int f_this_entryMany, .ref a_this_entryFamily, .ref a_this_entryOf, .ref a_this_entryRank])), (a_this_buffer, .inl (cI, 60, .inl c_this_buffer)), (a_this_chosen, .inl (cJ, 3721, .inr (.inl c_this_chosen))), (a_this_of, .inl (cI, 4, .inl c_this_of))] PL sz)) (rk_Ql r0.1 D [(a_this_left, .inl (cI, 4, .inl r0.2))] [(a_this_left, .inl (cI, 4, .inl c_this_left))] sz) 0 0 (va_A [(a_this_left, .inl (cI, 4, .inl c_this_left))] sz) := by
  refine rk_metl h (fun x : Int64 × (Nat → Int32) => x.1) (fun x => [(a_this_left, .inl (cI, 4, .inl x.2))]) (by decide) (Nat.le_of_ble_eq_true rfl) ?_
  intro p e s m args below meth c A ls Q hret hname hF hP hD hA hV hR0 hn hPL hnl hl h hS
  have hx := hF.1
  have hb := hF.2.1
  have hml := hF.2.2.1
  have hown : s.vm.findClass RX10 = some m.cls := hF.2.2.2.1
  have htc := hF.2.2.2.2
  have hP : va_P D vwCl [(a_this_left, .inl (cI, 4, .inl c_this_left))] s.heap := hP
  have hD : va_D A [(a_this_left, .inl (cI, 4, .inl c_this_left))] := hD
  have hR0 : va_P D vwCl [(a_this, .inr (9, [.ref a_this_chosen, .ref a_this_factorial, .ref a_this_catalan, .ref a_this_parted, .ref a_this_closed, .int f_this_now, .ref a_this_of, .ref a_this_buffer, .ref a_this_made, .ref a_this_stackOne, .ref a_this_stackOther, .ref a_this_stackLong, .ref a_this_left, .int f_this_entryMany, .ref a_this_entryFamily, .ref a_this_entryOf, .ref a_this_entryRank])), (a_this_buffer, .inl (cI, 60, .inl c_this_buffer)), (a_this_chosen, .inl (cJ, 3721, .inr (.inl c_this_chosen))), (a_this_of, .inl (cI, 4, .inl c_this_of))] s.heap := hR0
  have hR := hR0
  have hl : lv_has ls 5 [(0, .ref a_this)] := hl
  unfold fX10_arrangementRank at h
  refine lv_lconst (v := 0) hx hb dX10_arrangementRank_0 (by decide) ?_
  refine lv_lstore_n (lv' := [(1, .long (0 : Int64)), (0, .ref a_this)]) hx hb dX10_arrangementRank_1 rfl hl (by decide) rfl (fun ls hl => ?_)
  refine lv_aload_n hx hb dX10_arrangementRank_2 rfl (lv_at hl 1 rfl) ?_
  obtain ⟨r_3, hc_3, h⟩ := rk_bd h
  refine rk_v (wr := []) (va_runV (C := RX10) (As := []) (rest := []) hF (mtX10_leaveAll l D cI cJ cO PL _ a_this a_this_chosen a_this_factorial a_this_catalan a_this_parted a_this_closed f_this_now a_this_of a_this_buffer a_this_made a_this_stackOne a_this_stackOther a_this_stackLong a_this_left f_this_entryMany a_this_entryFamily a_this_entryOf a_this_entryRank c_this_left c_this_of r_3 hc_3) (cwV 0 htc (rk_gV w_4_107 w_4_109 ws_47 w_1_7 w_4_110) rfl rfl rfl (by decide +kernel) ⟨(Nat.le_of_ble_eq_true rfl), (Nat.le_of_ble_eq_true rfl)⟩) (rk_preV (va_recv hV.1 hR (ci := 9) (q0 := 0) rfl rfl) (rk_preS hP hD hS hR hn hPL hnl hV [0] [(false, 0), (false, 3)] rfl (by decide) rfl (by decide))) rfl rfl hl.1 rfl (lv_room (Nat.le_of_ble_eq_true rfl)) dX10_arrangementRank_3 ⟨(Nat.le_of_ble_eq_true rfl), (Nat.le_of_ble_eq_true rfl)⟩) hP hD hS hA hR0 hn [0] [] rfl rfl (by decide) (by decide) (fun H locs hP hD hS hR => ?_)
  have hP : va_P D vwCl [(a_this_left, .inl (cI, 4, .inl r_3))] H := hP
  have hD : va_D A [(a_this_left, .inl (cI, 4, .inl r_3))] := hD
  refine lv_iconst (v := 0) hx hb dX10_arrangementRank_6 (by decide) ?_
  refine lv_istore_n (lv' := [(3, .int (0 : Int32)), (1, .long (0 : Int64)), (0, .ref a_this)]) hx hb dX10_arrangementRank_7 rfl hl (by decide) rfl (fun ls hl => ?_)
  have L8 : ∀ (n8 : Nat) (b8_l1 : Int64) (b8_l3 : Int32) (b8_c_this_left : Nat → Int32), rk_it3 (fX10_arrangementRank_L8 f_this_now c_this_buffer c_this_chosen c_this_of) n8 b8_l1 b8_l3 b8_c_this_left = some r0 → ∀ (H : Heap) (locs : List Loc), va_P D vwCl [(a_this_left, .inl (cI, 4, .inl b8_c_this_left))] H → va_D A [(a_this_left, .inl (cI, 4, .inl b8_c_this_left))] → va_S A s.heap H locs → ∀ (ls : Array Slot), lv_has ls 5 [(0, .ref a_this), (1, .long b8_l1), (3, .int b8_l3)] → W p l e rmX10_arrangementRank s m args below meth c H locs 0 0 Q (F0 m 8 ls []) := by
    intro n8
    induction n8 with
    | zero => intro b8_l1 b8_l3 b8_c_this_left h; exact rk_no h
    | succ n8 ih8 =>
      intro b8_l1 b8_l3 b8_c_this_left h H locs hP hD hS ls hl
      have h : fX10_arrangementRank_L8 f_this_now c_this_buffer c_this_chosen c_this_of (rk_it3 (fX10_arrangementRank_L8 f_this_now c_this_buffer c_this_chosen c_this_of) n8) b8_l1 b8_l3 b8_c_this_left = some r0 := h
      unfold fX10_arrangementRank_L8 at h
      have hR := rk_keep hR0 hn hS
      refine lv_iload_n hx hb dX10_arrangementRank_8 rfl (lv_at hl 2 rfl) ?_
      refine lv_aload_n hx hb dX10_arrangementRank_9 rfl (lv_at hl 0 rfl) ?_
      obtain ⟨r_10, hc_10, h⟩ := rk_bd h
      refine rk_i (wr := [(a_this_left, .inl (cI, 4, .inl b8_c_this_left))]) (va_runV (C := RX10) (As := []) (rest := [.int b8_l3]) hF (mtX10_longNow l D cI cJ cO PL _ a_this a_this_chosen a_this_factorial a_this_catalan a_this_parted a_this_closed f_this_now a_this_of a_this_buffer a_this_made a_this_stackOne a_this_stackOther a_this_stackLong a_this_left f_this_entryMany a_this_entryFamily a_this_entryOf a_this_entryRank c_this_of r_10 hc_10) (cwV 0 htc (rk_gV w_4_111 w_4_113 ws_48 w_1_7 w_4_114) rfl rfl rfl (by decide +kernel) ⟨(Nat.le_of_ble_eq_true rfl), (Nat.le_of_ble_eq_true rfl)⟩) (rk_preV (va_recv hV.1 hR (ci := 9) (q0 := 0) rfl rfl) (rk_preS hP hD hS hR hn hPL hnl hV [] [(false, 0), (false, 3)] rfl (by decide) rfl (by decide))) rfl rfl hl.1 rfl (lv_room (Nat.le_of_ble_eq_true rfl)) dX10_arrangementRank_10 ⟨(Nat.le_of_ble_eq_true rfl), (Nat.le_of_ble_eq_true rfl)⟩) hP hD hS hA hR0 hn [] [0] rfl rfl (by decide) (by decide) (fun H locs hP hD hS hR => ?_)
      have hP : va_P D vwCl [(a_this_left, .inl (cI, 4, .inl b8_c_this_left))] H := hP
      have hD : va_D A [(a_this_left, .inl (cI, 4, .inl b8_c_this_left))] := hD
      refine lv_icmp_ge (tgt := 66) hx hb dX10_arrangementRank_13 (by decide) (fun hc1 => ?_) (fun hc1 => ?_)
      · have h := rk_if hc1 h
        refine lv_lload_n hx hb dX10_arrangementRank_66 rfl (lv_at hl 1 rfl) ?_
        exact hret (b8_l1, b8_c_this_left) _ _ _ _ h dX10_arrangementRank_67 hP hD hS
      · have h := rk_nif hc1 h
        refine lv_iconst (v := 0) hx hb dX10_arrangementRank_16 (by decide) ?_
        refine lv_istore (lv' := [(4, .int (0 : Int32)), (0, .ref a_this), (1, .long b8_l1), (3, .int b8_l3)]) hx hb dX10_arrangementRank_17 hl (by decide) rfl (fun ls hl => ?_)
        have L19 : ∀ (n19 : Nat) (b19_l1 : Int64) (b19_l4 : Int32) (b19_c_this_left : Nat → Int32), rk_it3 (fX10_arrangementRank_L19 c_this_buffer c_this_chosen b8_l3 (rk_it3 (fX10_arrangementRank_L8 f_this_now c_this_buffer c_this_chosen c_this_of) n8)) n19 b19_l1 b19_l4 b19_c_this_left = some r0 → ∀ (H : Heap) (locs : List Loc), va_P D vwCl [(a_this_left, .inl (cI, 4, .inl b19_c_this_left))] H → va_D A [(a_this_left, .inl (cI, 4, .inl b19_c_this_left))] → va_S A s.heap H locs → ∀ (ls : Array Slot), lv_has ls 5 [(0, .ref a_this), (1, .long b19_l1), (3, .int b8_l3), (4, .int b19_l4)] → W p l e rmX10_arrangementRank s m args below meth c H locs 0 0 Q (F0 m 19 ls []) := by
          intro n19
          induction n19 with
          | zero => intro b19_l1 b19_l4 b19_c_this_left h; exact rk_no h
          | succ n19 ih19 =>
            intro b19_l1 b19_l4 b19_c_this_left h H locs hP hD hS ls hl
            have h : fX10_arrangementRank_L19 c_this_buffer c_this_chosen b8_l3 (rk_it3 (fX10_arrangementRank_L8 f_this_now c_this_buffer c_this_chosen c_this_of) n8) (rk_it3 (fX10_arrangementRank_L19 c_this_buffer c_this_chosen b8_l3 (rk_it3 (fX10_arrangementRank_L8 f_this_now c_this_buffer c_this_chosen c_this_of) n8)) n19) b19_l1 b19_l4 b19_c_this_left = some r0 := h
            unfold fX10_arrangementRank_L19 at h
            have hR := rk_keep hR0 hn hS
            refine lv_iload hx hb dX10_arrangementRank_19 (lv_at hl 3 rfl) ?_
            refine lv_aload_n hx hb dX10_arrangementRank_21 rfl (lv_at hl 0 rfl) ?_
            refine va_get (D := D) (ci := 9) (v := .ref a_this_buffer) (C := RX10) (T := TX10) (N := 17) hx hb htc inX10 hown hV.1 hR 0 rfl rfl 7 (by decide) (htc _ w_4_5) (fun _ h9 => h9) rfl dX10_arrangementRank_22 ?_
            refine lv_iload_n hx hb dX10_arrangementRank_25 rfl (lv_at hl 2 rfl) ?_
            obtain ⟨hg2, h⟩ := rk_gd h
            refine va_iald hx hb hV.1 hR 1 0 rfl rfl hg2 dX10_arrangementRank_26 ?_
            refine lv_icmp_ge (tgt := 45) hx hb dX10_arrangementRank_27 (by decide) (fun hc3 => ?_) (fun hc3 => ?_)
            · have h := rk_if hc3 h
              refine lv_aload_n hx hb dX10_arrangementRank_45 rfl (lv_at hl 0 rfl) ?_
              refine va_get (D := D) (ci := 9) (v := .ref a_this_left) (C := RX10) (T := TX10) (N := 17) hx hb htc inX10 hown hV.1 hR 0 rfl rfl 12 (by decide) (htc _ w_4_10) (fun _ h9 => h9) rfl dX10_arrangementRank_46 ?_
              refine lv_aload_n hx hb dX10_arrangementRank_49 rfl (lv_at hl 0 rfl) ?_
              refine va_get (D := D) (ci := 9) (v := .ref a_this_buffer) (C := RX10) (T := TX10) (N := 17) hx hb htc inX10 hown hV.1 hR 0 rfl rfl 7 (by decide) (htc _ w_4_5) (fun _ h9 => h9) rfl dX10_arrangementRank_50 ?_
              refine lv_iload_n hx hb dX10_arrangementRank_53 rfl (lv_at hl 2 rfl) ?_
              refine va_iald hx hb hV.1 hR 1 0 rfl rfl hg2 dX10_arrangementRank_54 ?_
              refine lv_dup2_11 hx hb dX10_arrangementRank_55 rfl rfl ?_
              obtain ⟨hg4, h⟩ := rk_gd h
              refine va_iald hx hb hV.1 hP 0 0 rfl rfl hg4 dX10_arrangementRank_56 ?_
              refine lv_iconst (v := 1) hx hb dX10_arrangementRank_57 (by decide) ?_
              refine lv_isub hx hb dX10_arrangementRank_58 ?_
              refine va_iast hx hb hV.1 hP hD hS 0 0 rfl rfl hg4 dX10_arrangementRank_59 (fun H locs hP hD hS => ?_)
              have hP : va_P D vwCl [(a_this_left, .inl (cI, 4, .inl (upd b19_c_this_left (c_this_buffer b8_l3.toNatClampNeg).toNatClampNeg ((b19_c_this_left (c_this_buffer b8_l3.toNatClampNeg).toNatClampNeg) - (1 : Int32)))))] H := hP
              have hD : va_D A [(a_this_left, .inl (cI, 4, .inl (upd b19_c_this_left (c_this_buffer b8_l3.toNatClampNeg).toNatClampNeg ((b19_c_this_left (c_this_buffer b8_l3.toNatClampNeg).toNatClampNeg) - (1 : Int32)))))] := hD
              have hR := rk_keep hR0 hn hS
              refine lv_iinc (v := (b8_l3 + 1)) (lv' := [(3, .int (b8_l3 + 1)), (0, .ref a_this), (1, .long b19_l1), (4, .int b19_l4)]) hx hb dX10_arrangementRank_60 hl (k := 2) rfl rfl (by decide) rfl (fun ls hl => ?_)
              refine lv_goto (tgt := 8) hx hb dX10_arrangementRank_63 (by decide) ?_
              exact ih8 b19_l1 (b8_l3 + 1) (upd b19_c_this_left (c_this_buffer b8_l3.toNatClampNeg).toNatClampNeg ((b19_c_this_left (c_this_buffer b8_l3.toNatClampNeg).toNatClampNeg) - (1 : Int32))) h _ _ hP hD hS _ (lv_sub hl [1, 2, 0] rfl)
            · have h := rk_nif hc3 h
              refine lv_lload_n hx hb dX10_arrangementRank_30 rfl (lv_at hl 1 rfl) ?_
              refine lv_aload_n hx hb dX10_arrangementRank_31 rfl (lv_at hl 0 rfl) ?_
              refine lv_iload hx hb dX10_arrangementRank_32 (lv_at hl 3 rfl) ?_
              obtain ⟨r_34, hc_34, h⟩ := rk_bd h
              refine rk_l (wr := []) (va_runV (C := RX10) (As := [.int b19_l4]) (rest := [.long b19_l1]) hF (mtX10_waysWithout l D cI cJ cO PL _ a_this a_this_chosen a_this_factorial a_this_catalan a_this_parted a_this_closed f_this_now a_this_of a_this_buffer a_this_made a_this_stackOne a_this_stackOther a_this_stackLong a_this_left f_this_entryMany a_this_entryFamily a_this_entryOf a_this_entryRank b19_c_this_left c_this_chosen b19_l4 r_34 hc_34) (cwV 1 htc (rk_gV w_4_115 w_4_117 ws_49 w_1_7 w_4_118) rfl rfl rfl (by decide +kernel) ⟨(Nat.le_of_ble_eq_true rfl), (Nat.le_of_ble_eq_true rfl)⟩) (rk_preV (va_recv hV.1 hR (ci := 9) (q0 := 0) rfl rfl) (rk_preS hP hD hS hR hn hPL hnl hV [0] [(false, 0), (false, 2)] rfl (by decide) rfl (by decide))) rfl rfl hl.1 rfl (lv_room (Nat.le_of_ble_eq_true rfl)) dX10_arrangementRank_34 ⟨(Nat.le_of_ble_eq_true rfl), (Nat.le_of_ble_eq_true rfl)⟩) hP hD hS hA hR0 hn [0] [] rfl rfl (by decide) (by decide) (fun H locs hP hD hS hR => ?_)
              have hP : va_P D vwCl [(a_this_left, .inl (cI, 4, .inl r_34.2))] H := hP
              have hD : va_D A [(a_this_left, .inl (cI, 4, .inl r_34.2))] := hD
              refine lv_ladd hx hb dX10_arrangementRank_37 ?_
              refine lv_lstore_n (lv' := [(1, .long (b19_l1 + r_34.1)), (0, .ref a_this), (3, .int b8_l3), (4, .int b19_l4)]) hx hb dX10_arrangementRank_38 rfl hl (by decide) rfl (fun ls hl => ?_)
              refine lv_iinc (v := (b19_l4 + 1)) (lv' := [(4, .int (b19_l4 + 1)), (1, .long (b19_l1 + r_34.1)), (0, .ref a_this), (3, .int b8_l3)]) hx hb dX10_arrangementRank_39 hl (k := 3) rfl rfl (by decide) rfl (fun ls hl => ?_)
              refine lv_goto (tgt := 19) hx hb dX10_arrangementRank_42 (by decide) ?_
              exact ih19 (b19_l1 + r_34.1) (b19_l4 + 1) r_34.2 h _ _ hP hD hS _ (lv_sub hl [2, 1, 3, 0] rfl)
        exact L19 FU b8_l1 (0 : Int32) b8_c_this_left h _ _ hP hD hS _ (lv_sub hl [1, 2, 3, 0] rfl)
  exact L8 FU (0 : Int64) (0 : Int32) r_3 h _ _ hP hD hS _ (lv_sub hl [2, 1, 0] rfl)
set_option maxHeartbeats 4000000 in
set_option maxRecDepth 100000 in
theorem mtX10_rankNow (l : Launch) (D : va_G) (cI cJ cO : ClassId) (PL : va_W) (sz : Nat) (a_this : Nat) (a_this_chosen : Nat) (a_this_factorial : Nat) (a_this_catalan : Nat) (a_this_parted : Nat) (a_this_closed : Nat) (f_this_now : Int32) (a_this_of : Nat) (a_this_buffer : Nat) (a_this_made : Nat) (a_this_stackOne : Nat) (a_this_stackOther : Nat) (a_this_stackLong : Nat) (a_this_left : Nat) (f_this_entryMany : Int32) (a_this_entryFamily : Nat) (a_this_entryOf : Nat) (a_this_entryRank : Nat) (c_this_left : Nat → Int32) (c_this_stackLong : Nat → Int64) (c_this_stackOne : Nat → Int32) (c_this_buffer : Nat → Int32) (c_this_catalan : Nat → Int64) (c_this_chosen : Nat → Int64) (c_this_closed : Nat → Int64) (c_this_factorial : Nat → Int64) (c_this_of : Nat → Int32) (c_this_parted : Nat → Int64) (r0 : Int64 × (Nat → Int32) × (Nat → Int64) × (Nat → Int32)) (h : fX10_rankNow f_this_now c_this_left c_this_stackLong c_this_stackOne c_this_buffer c_this_catalan c_this_chosen c_this_closed c_this_factorial c_this_of c_this_parted = some r0) : Met l yX10_rankNow (rk_w yX10_rankNow cX10_rankNow 1 (some .long)) rmX10_rankNow (va_Pc [.ref a_this] (rk_B D (rk_TY cI cJ cO) [(a_this_left, .inl (cI, 4, .inl c_this_left)), (a_this_stackLong, .inl (cJ, 64, .inr (.inl c_this_stackLong))), (a_this_stackOne, .inl (cI, 64, .inl c_this_stackOne))] [(a_this, .inr (9, [.ref a_this_chosen, .ref a_this_factorial, .ref a_this_catalan, .ref a_this_parted, .ref a_this_closed, .int f_this_now, .ref a_this_of, .ref a_this_buffer, .ref a_this_made, .ref a_this_stackOne, .ref a_this_stackOther, .ref a_this_stackLong, .ref a_this_left, .int f_this_entryMany, .ref a_this_entryFamily, .ref a_this_entryOf, .ref a_this_entryRank])), (a_this_buffer, .inl (cI, 60, .inl c_this_buffer)), (a_this_catalan, .inl (cJ, 31, .inr (.inl c_this_catalan))), (a_this_chosen, .inl (cJ, 3721, .inr (.inl c_this_chosen))), (a_this_closed, .inl (cJ, 1722, .inr (.inl c_this_closed))), (a_this_factorial, .inl (cJ, 21, .inr (.inl c_this_factorial))), (a_this_of, .inl (cI, 4, .inl c_this_of)), (a_this_parted, .inl (cJ, 3721, .inr (.inl c_this_parted)))] PL sz)) (rk_Ql r0.1 D [(a_this_left, .inl (cI, 4, .inl r0.2.1)), (a_this_stackLong, .inl (cJ, 64, .inr (.inl r0.2.2.1))), (a_this_stackOne, .inl (cI, 64, .inl r0.2.2.2))] [(a_this_left, .inl (cI, 4, .inl c_this_left)), (a_this_stackLong, .inl (cJ, 64, .inr (.inl c_this_stackLong))), (a_this_stackOne, .inl (cI, 64, .inl c_this_stackOne))] sz) 0 0 (va_A [(a_this_left, .inl (cI, 4, .inl c_this_left)), (a_this_stackLong, .inl (cJ, 64, .inr (.inl c_this_stackLong))), (a_this_stackOne, .inl (cI, 64, .inl c_this_stackOne))] sz) := by
  refine rk_metl h (fun x : Int64 × (Nat → Int32) × (Nat → Int64) × (Nat → Int32) => x.1) (fun x => [(a_this_left, .inl (cI, 4, .inl x.2.1)), (a_this_stackLong, .inl (cJ, 64, .inr (.inl x.2.2.1))), (a_this_stackOne, .inl (cI, 64, .inl x.2.2.2))]) (by decide) (Nat.le_of_ble_eq_true rfl) ?_
  intro p e s m args below meth c A ls Q hret hname hF hP hD hA hV hR0 hn hPL hnl hl h hS
  have hx := hF.1
  have hb := hF.2.1
  have hml := hF.2.2.1
  have hown : s.vm.findClass RX10 = some m.cls := hF.2.2.2.1
  have htc := hF.2.2.2.2
  have hP : va_P D vwCl [(a_this_left, .inl (cI, 4, .inl c_this_left)), (a_this_stackLong, .inl (cJ, 64, .inr (.inl c_this_stackLong))), (a_this_stackOne, .inl (cI, 64, .inl c_this_stackOne))] s.heap := hP
  have hD : va_D A [(a_this_left, .inl (cI, 4, .inl c_this_left)), (a_this_stackLong, .inl (cJ, 64, .inr (.inl c_this_stackLong))), (a_this_stackOne, .inl (cI, 64, .inl c_this_stackOne))] := hD
  have hR0 : va_P D vwCl [(a_this, .inr (9, [.ref a_this_chosen, .ref a_this_factorial, .ref a_this_catalan, .ref a_this_parted, .ref a_this_closed, .int f_this_now, .ref a_this_of, .ref a_this_buffer, .ref a_this_made, .ref a_this_stackOne, .ref a_this_stackOther, .ref a_this_stackLong, .ref a_this_left, .int f_this_entryMany, .ref a_this_entryFamily, .ref a_this_entryOf, .ref a_this_entryRank])), (a_this_buffer, .inl (cI, 60, .inl c_this_buffer)), (a_this_catalan, .inl (cJ, 31, .inr (.inl c_this_catalan))), (a_this_chosen, .inl (cJ, 3721, .inr (.inl c_this_chosen))), (a_this_closed, .inl (cJ, 1722, .inr (.inl c_this_closed))), (a_this_factorial, .inl (cJ, 21, .inr (.inl c_this_factorial))), (a_this_of, .inl (cI, 4, .inl c_this_of)), (a_this_parted, .inl (cJ, 3721, .inr (.inl c_this_parted)))] s.heap := hR0
  have hR := hR0
  have hl : lv_has ls 1 [(0, .ref a_this)] := hl
  unfold fX10_rankNow at h
  refine lv_aload_n hx hb dX10_rankNow_0 rfl (lv_at hl 0 rfl) ?_
  refine va_get (D := D) (ci := 9) (v := .int f_this_now) (C := RX10) (T := TX10) (N := 17) hx hb htc inX10 hown hV.1 hR 0 rfl rfl 5 (by decide) (htc _ w_4_3) (fun _ h9 => h9) rfl dX10_rankNow_1 ?_
  by_cases hk1 : f_this_now = 0
  · have h := rk_if hk1 h
    refine lv_tableIn (off := 36) (tgt := 40) hx hb dX10_rankNow_4 (by rw [hk1]; decide) (by rw [hk1]; decide) (by rw [hk1]; decide) (by decide) ?_
    refine lv_aload_n hx hb dX10_rankNow_40 rfl (lv_at hl 0 rfl) ?_
    obtain ⟨r_41, hc_41, h⟩ := rk_bd h
    refine rk_l (wr := [(a_this_left, .inl (cI, 4, .inl c_this_left)), (a_this_stackLong, .inl (cJ, 64, .inr (.inl c_this_stackLong))), (a_this_stackOne, .inl (cI, 64, .inl c_this_stackOne))]) (va_runV (C := RX10) (As := []) (rest := []) hF (mtX10_subsetRank l D cI cJ cO PL _ a_this a_this_chosen a_this_factorial a_this_catalan a_this_parted a_this_closed f_this_now a_this_of a_this_buffer a_this_made a_this_stackOne a_this_stackOther a_this_stackLong a_this_left f_this_entryMany a_this_entryFamily a_this_entryOf a_this_entryRank c_this_buffer c_this_chosen c_this_of r_41 hc_41) (cwV 0 htc (rk_gV w_4_225 w_4_227 ws_62 w_1_7 w_4_228) rfl rfl rfl (by decide +kernel) ⟨(Nat.le_of_ble_eq_true rfl), (Nat.le_of_ble_eq_true rfl)⟩) (rk_preV (va_recv hV.1 hR (ci := 9) (q0 := 0) rfl rfl) (rk_preS hP hD hS hR hn hPL hnl hV [] [(false, 0), (false, 1), (false, 3), (false, 6)] rfl (by decide) rfl (by decide))) rfl rfl hl.1 rfl (lv_room (Nat.le_of_ble_eq_true rfl)) dX10_rankNow_41 ⟨(Nat.le_of_ble_eq_true rfl), (Nat.le_of_ble_eq_true rfl)⟩) hP hD hS hA hR0 hn [] [0, 1, 2] rfl rfl (by decide) (by decide) (fun H locs hP hD hS hR => ?_)
    have hP : va_P D vwCl [(a_this_left, .inl (cI, 4, .inl c_this_left)), (a_this_stackLong, .inl (cJ, 64, .inr (.inl c_this_stackLong))), (a_this_stackOne, .inl (cI, 64, .inl c_this_stackOne))] H := hP
    have hD : va_D A [(a_this_left, .inl (cI, 4, .inl c_this_left)), (a_this_stackLong, .inl (cJ, 64, .inr (.inl c_this_stackLong))), (a_this_stackOne, .inl (cI, 64, .inl c_this_stackOne))] := hD
    exact hret (r_41, c_this_left, c_this_stackLong, c_this_stackOne) _ _ _ _ h dX10_rankNow_44 hP hD hS
  have h := rk_nif hk1 h
  by_cases hk2 : f_this_now = 1
  · have h := rk_if hk2 h
    refine lv_tableIn (off := 41) (tgt := 45) hx hb dX10_rankNow_4 (by rw [hk2]; decide) (by rw [hk2]; decide) (by rw [hk2]; decide) (by decide) ?_
    refine lv_aload_n hx hb dX10_rankNow_45 rfl (lv_at hl 0 rfl) ?_
    obtain ⟨r_46, hc_46, h⟩ := rk_bd h
    refine rk_l (wr := [(a_this_left, .inl (cI, 4, .inl c_this_left)), (a_this_stackLong, .inl (cJ, 64, .inr (.inl c_this_stackLong))), (a_this_stackOne, .inl (cI, 64, .inl c_this_stackOne))]) (va_runV (C := RX10) (As := []) (rest := []) hF (mtX10_permutationRank l D cI cJ cO PL _ a_this a_this_chosen a_this_factorial a_this_catalan a_this_parted a_this_closed f_this_now a_this_of a_this_buffer a_this_made a_this_stackOne a_this_stackOther a_this_stackLong a_this_left f_this_entryMany a_this_entryFamily a_this_entryOf a_this_entryRank c_this_buffer c_this_factorial c_this_of r_46 hc_46) (cwV 0 htc (rk_gV w_4_229 w_4_231 ws_63 w_1_7 w_4_232) rfl rfl rfl (by decide +kernel) ⟨(Nat.le_of_ble_eq_true rfl), (Nat.le_of_ble_eq_true rfl)⟩) (rk_preV (va_recv hV.1 hR (ci := 9) (q0 := 0) rfl rfl) (rk_preS hP hD hS hR hn hPL hnl hV [] [(false, 0), (false, 1), (false, 5), (false, 6)] rfl (by decide) rfl (by decide))) rfl rfl hl.1 rfl (lv_room (Nat.le_of_ble_eq_true rfl)) dX10_rankNow_46 ⟨(Nat.le_of_ble_eq_true rfl), (Nat.le_of_ble_eq_true rfl)⟩) hP hD hS hA hR0 hn [] [0, 1, 2] rfl rfl (by decide) (by decide) (fun H locs hP hD hS hR => ?_)
    have hP : va_P D vwCl [(a_this_left, .inl (cI, 4, .inl c_this_left)), (a_this_stackLong, .inl (cJ, 64, .inr (.inl c_this_stackLong))), (a_this_stackOne, .inl (cI, 64, .inl c_this_stackOne))] H := hP
    have hD : va_D A [(a_this_left, .inl (cI, 4, .inl c_this_left)), (a_this_stackLong, .inl (cJ, 64, .inr (.inl c_this_stackLong))), (a_this_stackOne, .inl (cI, 64, .inl c_this_stackOne))] := hD
    exact hret (r_46, c_this_left, c_this_stackLong, c_this_stackOne) _ _ _ _ h dX10_rankNow_49 hP hD hS
  have h := rk_nif hk2 h
  by_cases hk3 : f_this_now = 2
  · have h := rk_if hk3 h
    refine lv_tableIn (off := 46) (tgt := 50) hx hb dX10_rankNow_4 (by rw [hk3]; decide) (by rw [hk3]; decide) (by rw [hk3]; decide) (by decide) ?_
    refine lv_aload_n hx hb dX10_rankNow_50 rfl (lv_at hl 0 rfl) ?_
    obtain ⟨r_51, hc_51, h⟩ := rk_bd h
    refine rk_l (wr := [(a_this_left, .inl (cI, 4, .inl c_this_left)), (a_this_stackLong, .inl (cJ, 64, .inr (.inl c_this_stackLong)))]) (va_runV (C := RX10) (As := []) (rest := []) hF (mtX10_wordRank l D cI cJ cO PL _ a_this a_this_chosen a_this_factorial a_this_catalan a_this_parted a_this_closed f_this_now a_this_of a_this_buffer a_this_made a_this_stackOne a_this_stackOther a_this_stackLong a_this_left f_this_entryMany a_this_entryFamily a_this_entryOf a_this_entryRank c_this_stackOne c_this_buffer c_this_closed c_this_of r_51 hc_51) (cwV 0 htc (rk_gV w_5_1 w_5_3 ws_66 w_1_7 w_5_4) rfl rfl rfl (by decide +kernel) ⟨(Nat.le_of_ble_eq_true rfl), (Nat.le_of_ble_eq_true rfl)⟩) (rk_preV (va_recv hV.1 hR (ci := 9) (q0 := 0) rfl rfl) (rk_preS hP hD hS hR hn hPL hnl hV [2] [(false, 0), (false, 1), (false, 4), (false, 6)] rfl (by decide) rfl (by decide))) rfl rfl hl.1 rfl (lv_room (Nat.le_of_ble_eq_true rfl)) dX10_rankNow_51 ⟨(Nat.le_of_ble_eq_true rfl), (Nat.le_of_ble_eq_true rfl)⟩) hP hD hS hA hR0 hn [2] [0, 1] rfl rfl (by decide) (by decide) (fun H locs hP hD hS hR => ?_)
    have hP : va_P D vwCl [(a_this_left, .inl (cI, 4, .inl c_this_left)), (a_this_stackLong, .inl (cJ, 64, .inr (.inl c_this_stackLong))), (a_this_stackOne, .inl (cI, 64, .inl r_51.2))] H := hP
    have hD : va_D A [(a_this_left, .inl (cI, 4, .inl c_this_left)), (a_this_stackLong, .inl (cJ, 64, .inr (.inl c_this_stackLong))), (a_this_stackOne, .inl (cI, 64, .inl r_51.2))] := hD
    exact hret (r_51.1, c_this_left, c_this_stackLong, r_51.2) _ _ _ _ h dX10_rankNow_54 hP hD hS
  have h := rk_nif hk3 h
  by_cases hk4 : f_this_now = 3
  · have h := rk_if hk4 h
    refine lv_tableIn (off := 51) (tgt := 55) hx hb dX10_rankNow_4 (by rw [hk4]; decide) (by rw [hk4]; decide) (by rw [hk4]; decide) (by decide) ?_
    refine lv_aload_n hx hb dX10_rankNow_55 rfl (lv_at hl 0 rfl) ?_
    obtain ⟨r_56, hc_56, h⟩ := rk_bd h
    refine rk_l (wr := [(a_this_left, .inl (cI, 4, .inl c_this_left))]) (va_runV (C := RX10) (As := []) (rest := []) hF (mtX10_treeRank l D cI cJ cO PL _ a_this a_this_chosen a_this_factorial a_this_catalan a_this_parted a_this_closed f_this_now a_this_of a_this_buffer a_this_made a_this_stackOne a_this_stackOther a_this_stackLong a_this_left f_this_entryMany a_this_entryFamily a_this_entryOf a_this_entryRank c_this_stackLong c_this_stackOne c_this_buffer c_this_catalan c_this_of r_56 hc_56) (cwV 0 htc (rk_gV w_5_5 w_5_7 ws_67 w_1_7 w_5_8) rfl rfl rfl (by decide +kernel) ⟨(Nat.le_of_ble_eq_true rfl), (Nat.le_of_ble_eq_true rfl)⟩) (rk_preV (va_recv hV.1 hR (ci := 9) (q0 := 0) rfl rfl) (rk_preS hP hD hS hR hn hPL hnl hV [1, 2] [(false, 0), (false, 1), (false, 2), (false, 6)] rfl (by decide) rfl (by decide))) rfl rfl hl.1 rfl (lv_room (Nat.le_of_ble_eq_true rfl)) dX10_rankNow_56 ⟨(Nat.le_of_ble_eq_true rfl), (Nat.le_of_ble_eq_true rfl)⟩) hP hD hS hA hR0 hn [1, 2] [0] rfl rfl (by decide) (by decide) (fun H locs hP hD hS hR => ?_)
    have hP : va_P D vwCl [(a_this_left, .inl (cI, 4, .inl c_this_left)), (a_this_stackLong, .inl (cJ, 64, .inr (.inl r_56.2.1))), (a_this_stackOne, .inl (cI, 64, .inl r_56.2.2))] H := hP
    have hD : va_D A [(a_this_left, .inl (cI, 4, .inl c_this_left)), (a_this_stackLong, .inl (cJ, 64, .inr (.inl r_56.2.1))), (a_this_stackOne, .inl (cI, 64, .inl r_56.2.2))] := hD
    exact hret (r_56.1, c_this_left, r_56.2.1, r_56.2.2) _ _ _ _ h dX10_rankNow_59 hP hD hS
  have h := rk_nif hk4 h
  by_cases hk5 : f_this_now = 4
  · have h := rk_if hk5 h
    refine lv_tableIn (off := 56) (tgt := 60) hx hb dX10_rankNow_4 (by rw [hk5]; decide) (by rw [hk5]; decide) (by rw [hk5]; decide) (by decide) ?_
    refine lv_aload_n hx hb dX10_rankNow_60 rfl (lv_at hl 0 rfl) ?_
    obtain ⟨r_61, hc_61, h⟩ := rk_bd h
    refine rk_l (wr := [(a_this_left, .inl (cI, 4, .inl c_this_left)), (a_this_stackLong, .inl (cJ, 64, .inr (.inl c_this_stackLong))), (a_this_stackOne, .inl (cI, 64, .inl c_this_stackOne))]) (va_runV (C := RX10) (As := []) (rest := []) hF (mtX10_partitionRank l D cI cJ cO PL _ a_this a_this_chosen a_this_factorial a_this_catalan a_this_parted a_this_closed f_this_now a_this_of a_this_buffer a_this_made a_this_stackOne a_this_stackOther a_this_stackLong a_this_left f_this_entryMany a_this_entryFamily a_this_entryOf a_this_entryRank c_this_buffer c_this_of c_this_parted r_61 hc_61) (cwV 0 htc (rk_gV w_5_9 w_5_11 ws_68 w_1_7 w_5_12) rfl rfl rfl (by decide +kernel) ⟨(Nat.le_of_ble_eq_true rfl), (Nat.le_of_ble_eq_true rfl)⟩) (rk_preV (va_recv hV.1 hR (ci := 9) (q0 := 0) rfl rfl) (rk_preS hP hD hS hR hn hPL hnl hV [] [(false, 0), (false, 1), (false, 6), (false, 7)] rfl (by decide) rfl (by decide))) rfl rfl hl.1 rfl (lv_room (Nat.le_of_ble_eq_true rfl)) dX10_rankNow_61 ⟨(Nat.le_of_ble_eq_true rfl), (Nat.le_of_ble_eq_true rfl)⟩) hP hD hS hA hR0 hn [] [0, 1, 2] rfl rfl (by decide) (by decide) (fun H locs hP hD hS hR => ?_)
    have hP : va_P D vwCl [(a_this_left, .inl (cI, 4, .inl c_this_left)), (a_this_stackLong, .inl (cJ, 64, .inr (.inl c_this_stackLong))), (a_this_stackOne, .inl (cI, 64, .inl c_this_stackOne))] H := hP
    have hD : va_D A [(a_this_left, .inl (cI, 4, .inl c_this_left)), (a_this_stackLong, .inl (cJ, 64, .inr (.inl c_this_stackLong))), (a_this_stackOne, .inl (cI, 64, .inl c_this_stackOne))] := hD
    exact hret (r_61, c_this_left, c_this_stackLong, c_this_stackOne) _ _ _ _ h dX10_rankNow_64 hP hD hS
  have h := rk_nif hk5 h
  refine lv_tableOut (tgt := 65) hx hb dX10_rankNow_4 (rk_tb5 hk1 hk2 hk3 hk4 hk5) (by decide) ?_
  refine lv_aload_n hx hb dX10_rankNow_65 rfl (lv_at hl 0 rfl) ?_
  obtain ⟨r_66, hc_66, h⟩ := rk_bd h
  refine rk_l (wr := [(a_this_stackLong, .inl (cJ, 64, .inr (.inl c_this_stackLong))), (a_this_stackOne, .inl (cI, 64, .inl c_this_stackOne))]) (va_runV (C := RX10) (As := []) (rest := []) hF (mtX10_arrangementRank l D cI cJ cO PL _ a_this a_this_chosen a_this_factorial a_this_catalan a_this_parted a_this_closed f_this_now a_this_of a_this_buffer a_this_made a_this_stackOne a_this_stackOther a_this_stackLong a_this_left f_this_entryMany a_this_entryFamily a_this_entryOf a_this_entryRank c_this_left c_this_buffer c_this_chosen c_this_of r_66 hc_66) (cwV 0 htc (rk_gV w_5_13 w_5_15 ws_69 w_1_7 w_5_16) rfl rfl rfl (by decide +kernel) ⟨(Nat.le_of_ble_eq_true rfl), (Nat.le_of_ble_eq_true rfl)⟩) (rk_preV (va_recv hV.1 hR (ci := 9) (q0 := 0) rfl rfl) (rk_preS hP hD hS hR hn hPL hnl hV [0] [(false, 0), (false, 1), (false, 3), (false, 6)] rfl (by decide) rfl (by decide))) rfl rfl hl.1 rfl (lv_room (Nat.le_of_ble_eq_true rfl)) dX10_rankNow_66 ⟨(Nat.le_of_ble_eq_true rfl), (Nat.le_of_ble_eq_true rfl)⟩) hP hD hS hA hR0 hn [0] [1, 2] rfl rfl (by decide) (by decide) (fun H locs hP hD hS hR => ?_)
  have hP : va_P D vwCl [(a_this_stackLong, .inl (cJ, 64, .inr (.inl c_this_stackLong))), (a_this_stackOne, .inl (cI, 64, .inl c_this_stackOne)), (a_this_left, .inl (cI, 4, .inl r_66.2))] H := hP
  have hD : va_D A [(a_this_stackLong, .inl (cJ, 64, .inr (.inl c_this_stackLong))), (a_this_stackOne, .inl (cI, 64, .inl c_this_stackOne)), (a_this_left, .inl (cI, 4, .inl r_66.2))] := hD
  exact hret (r_66.1, r_66.2, c_this_stackLong, c_this_stackOne) _ _ _ _ h dX10_rankNow_69 (hP.sub [2, 0, 1] rfl) (hD.sub [2, 0, 1] (by decide) rfl) hS
set_option maxHeartbeats 4000000 in
set_option maxRecDepth 100000 in
theorem mtX10_rank (l : Launch) (D : va_G) (cI cJ cO : ClassId) (PL : va_W) (sz : Nat) (a_this : Nat) (a_this_chosen : Nat) (a_this_factorial : Nat) (a_this_catalan : Nat) (a_this_parted : Nat) (a_this_closed : Nat) (f_this_now : Int32) (a_this_of : Nat) (a_this_buffer : Nat) (a_this_made : Nat) (a_this_stackOne : Nat) (a_this_stackOther : Nat) (a_this_stackLong : Nat) (a_this_left : Nat) (f_this_entryMany : Int32) (a_this_entryFamily : Nat) (a_this_entryOf : Nat) (a_this_entryRank : Nat) (c_this_left : Nat → Int32) (c_this_stackLong : Nat → Int64) (c_this_stackOne : Nat → Int32) (c_this_buffer : Nat → Int32) (c_this_catalan : Nat → Int64) (c_this_chosen : Nat → Int64) (c_this_closed : Nat → Int64) (c_this_factorial : Nat → Int64) (c_this_of : Nat → Int32) (c_this_parted : Nat → Int64) (r0 : Int64 × (Nat → Int32) × (Nat → Int64) × (Nat → Int32)) (h : fX10_rank f_this_now c_this_left c_this_stackLong c_this_stackOne c_this_buffer c_this_catalan c_this_chosen c_this_closed c_this_factorial c_this_of c_this_parted = some r0) : Met l yX10_rank (rk_w yX10_rank cX10_rank 1 (some .long)) rmX10_rank (va_Pc [.ref a_this] (rk_B D (rk_TY cI cJ cO) [(a_this_left, .inl (cI, 4, .inl c_this_left)), (a_this_stackLong, .inl (cJ, 64, .inr (.inl c_this_stackLong))), (a_this_stackOne, .inl (cI, 64, .inl c_this_stackOne))] [(a_this, .inr (9, [.ref a_this_chosen, .ref a_this_factorial, .ref a_this_catalan, .ref a_this_parted, .ref a_this_closed, .int f_this_now, .ref a_this_of, .ref a_this_buffer, .ref a_this_made, .ref a_this_stackOne, .ref a_this_stackOther, .ref a_this_stackLong, .ref a_this_left, .int f_this_entryMany, .ref a_this_entryFamily, .ref a_this_entryOf, .ref a_this_entryRank])), (a_this_buffer, .inl (cI, 60, .inl c_this_buffer)), (a_this_catalan, .inl (cJ, 31, .inr (.inl c_this_catalan))), (a_this_chosen, .inl (cJ, 3721, .inr (.inl c_this_chosen))), (a_this_closed, .inl (cJ, 1722, .inr (.inl c_this_closed))), (a_this_factorial, .inl (cJ, 21, .inr (.inl c_this_factorial))), (a_this_of, .inl (cI, 4, .inl c_this_of)), (a_this_parted, .inl (cJ, 3721, .inr (.inl c_this_parted)))] PL sz)) (rk_Ql r0.1 D [(a_this_left, .inl (cI, 4, .inl r0.2.1)), (a_this_stackLong, .inl (cJ, 64, .inr (.inl r0.2.2.1))), (a_this_stackOne, .inl (cI, 64, .inl r0.2.2.2))] [(a_this_left, .inl (cI, 4, .inl c_this_left)), (a_this_stackLong, .inl (cJ, 64, .inr (.inl c_this_stackLong))), (a_this_stackOne, .inl (cI, 64, .inl c_this_stackOne))] sz) 0 0 (va_A [(a_this_left, .inl (cI, 4, .inl c_this_left)), (a_this_stackLong, .inl (cJ, 64, .inr (.inl c_this_stackLong))), (a_this_stackOne, .inl (cI, 64, .inl c_this_stackOne))] sz) := by
  refine rk_metl h (fun x : Int64 × (Nat → Int32) × (Nat → Int64) × (Nat → Int32) => x.1) (fun x => [(a_this_left, .inl (cI, 4, .inl x.2.1)), (a_this_stackLong, .inl (cJ, 64, .inr (.inl x.2.2.1))), (a_this_stackOne, .inl (cI, 64, .inl x.2.2.2))]) (by decide) (Nat.le_of_ble_eq_true rfl) ?_
  intro p e s m args below meth c A ls Q hret hname hF hP hD hA hV hR0 hn hPL hnl hl h hS
  have hx := hF.1
  have hb := hF.2.1
  have hml := hF.2.2.1
  have hown : s.vm.findClass RX10 = some m.cls := hF.2.2.2.1
  have htc := hF.2.2.2.2
  have hP : va_P D vwCl [(a_this_left, .inl (cI, 4, .inl c_this_left)), (a_this_stackLong, .inl (cJ, 64, .inr (.inl c_this_stackLong))), (a_this_stackOne, .inl (cI, 64, .inl c_this_stackOne))] s.heap := hP
  have hD : va_D A [(a_this_left, .inl (cI, 4, .inl c_this_left)), (a_this_stackLong, .inl (cJ, 64, .inr (.inl c_this_stackLong))), (a_this_stackOne, .inl (cI, 64, .inl c_this_stackOne))] := hD
  have hR0 : va_P D vwCl [(a_this, .inr (9, [.ref a_this_chosen, .ref a_this_factorial, .ref a_this_catalan, .ref a_this_parted, .ref a_this_closed, .int f_this_now, .ref a_this_of, .ref a_this_buffer, .ref a_this_made, .ref a_this_stackOne, .ref a_this_stackOther, .ref a_this_stackLong, .ref a_this_left, .int f_this_entryMany, .ref a_this_entryFamily, .ref a_this_entryOf, .ref a_this_entryRank])), (a_this_buffer, .inl (cI, 60, .inl c_this_buffer)), (a_this_catalan, .inl (cJ, 31, .inr (.inl c_this_catalan))), (a_this_chosen, .inl (cJ, 3721, .inr (.inl c_this_chosen))), (a_this_closed, .inl (cJ, 1722, .inr (.inl c_this_closed))), (a_this_factorial, .inl (cJ, 21, .inr (.inl c_this_factorial))), (a_this_of, .inl (cI, 4, .inl c_this_of)), (a_this_parted, .inl (cJ, 3721, .inr (.inl c_this_parted)))] s.heap := hR0
  have hR := hR0
  have hl : lv_has ls 1 [(0, .ref a_this)] := hl
  unfold fX10_rank at h
  refine lv_aload_n hx hb dX10_rank_0 rfl (lv_at hl 0 rfl) ?_
  obtain ⟨r_1, hc_1, h⟩ := rk_bd h
  refine rk_i (wr := [(a_this_left, .inl (cI, 4, .inl c_this_left)), (a_this_stackLong, .inl (cJ, 64, .inr (.inl c_this_stackLong)))]) (va_runV (C := RX10) (As := []) (rest := []) hF (mtX10_isGood l D cI cJ cO PL _ a_this a_this_chosen a_this_factorial a_this_catalan a_this_parted a_this_closed f_this_now a_this_of a_this_buffer a_this_made a_this_stackOne a_this_stackOther a_this_stackLong a_this_left f_this_entryMany a_this_entryFamily a_this_entryOf a_this_entryRank c_this_stackOne c_this_buffer c_this_of r_1 hc_1) (cwV 0 htc (rk_gV w_4_189 w_4_191 ws_54 w_1_7 w_4_192) rfl rfl rfl (by decide +kernel) ⟨(Nat.le_of_ble_eq_true rfl), (Nat.le_of_ble_eq_true rfl)⟩) (rk_preV (va_recv hV.1 hR (ci := 9) (q0 := 0) rfl rfl) (rk_preS hP hD hS hR hn hPL hnl hV [2] [(false, 0), (false, 1), (false, 6)] rfl (by decide) rfl (by decide))) rfl rfl hl.1 rfl (lv_room (Nat.le_of_ble_eq_true rfl)) dX10_rank_1 ⟨(Nat.le_of_ble_eq_true rfl), (Nat.le_of_ble_eq_true rfl)⟩) hP hD hS hA hR0 hn [2] [0, 1] rfl rfl (by decide) (by decide) (fun H locs hP hD hS hR => ?_)
  have hP : va_P D vwCl [(a_this_left, .inl (cI, 4, .inl c_this_left)), (a_this_stackLong, .inl (cJ, 64, .inr (.inl c_this_stackLong))), (a_this_stackOne, .inl (cI, 64, .inl r_1.2))] H := hP
  have hD : va_D A [(a_this_left, .inl (cI, 4, .inl c_this_left)), (a_this_stackLong, .inl (cJ, 64, .inr (.inl c_this_stackLong))), (a_this_stackOne, .inl (cI, 64, .inl r_1.2))] := hD
  refine lv_if_eq (tgt := 14) hx hb dX10_rank_4 (by decide) (fun hc1 => ?_) (fun hc1 => ?_)
  · have h := rk_if hc1 h
    refine lv_ldc2 (v := (-2 : Int64)) hx hb hown (htc _ w_5_17) dX10_rank_14 ?_
    exact hret ((-2 : Int64), c_this_left, c_this_stackLong, r_1.2) _ _ _ _ h dX10_rank_17 hP hD hS
  · have h := rk_nif hc1 h
    refine lv_aload_n hx hb dX10_rank_7 rfl (lv_at hl 0 rfl) ?_
    obtain ⟨r_8, hc_8, h⟩ := rk_bd h
    refine rk_l (wr := []) (va_runV (C := RX10) (As := []) (rest := []) hF (mtX10_rankNow l D cI cJ cO PL _ a_this a_this_chosen a_this_factorial a_this_catalan a_this_parted a_this_closed f_this_now a_this_of a_this_buffer a_this_made a_this_stackOne a_this_stackOther a_this_stackLong a_this_left f_this_entryMany a_this_entryFamily a_this_entryOf a_this_entryRank c_this_left c_this_stackLong r_1.2 c_this_buffer c_this_catalan c_this_chosen c_this_closed c_this_factorial c_this_of c_this_parted r_8 hc_8) (cwV 0 htc (rk_gV w_4_221 w_4_223 ws_61 w_1_7 w_4_224) rfl rfl rfl (by decide +kernel) ⟨(Nat.le_of_ble_eq_true rfl), (Nat.le_of_ble_eq_true rfl)⟩) (rk_preV (va_recv hV.1 hR (ci := 9) (q0 := 0) rfl rfl) (rk_preS hP hD hS hR hn hPL hnl hV [0, 1, 2] [(false, 0), (false, 1), (false, 2), (false, 3), (false, 4), (false, 5), (false, 6), (false, 7)] rfl (by decide) rfl (by decide))) rfl rfl hl.1 rfl (lv_room (Nat.le_of_ble_eq_true rfl)) dX10_rank_8 ⟨(Nat.le_of_ble_eq_true rfl), (Nat.le_of_ble_eq_true rfl)⟩) hP hD hS hA hR0 hn [0, 1, 2] [] rfl rfl (by decide) (by decide) (fun H locs hP hD hS hR => ?_)
    have hP : va_P D vwCl [(a_this_left, .inl (cI, 4, .inl r_8.2.1)), (a_this_stackLong, .inl (cJ, 64, .inr (.inl r_8.2.2.1))), (a_this_stackOne, .inl (cI, 64, .inl r_8.2.2.2))] H := hP
    have hD : va_D A [(a_this_left, .inl (cI, 4, .inl r_8.2.1)), (a_this_stackLong, .inl (cJ, 64, .inr (.inl r_8.2.2.1))), (a_this_stackOne, .inl (cI, 64, .inl r_8.2.2.2))] := hD
    refine lv_goto (tgt := 17) hx hb dX10_rank_11 (by decide) ?_
    exact hret (r_8.1, r_8.2.1, r_8.2.2.1, r_8.2.2.2) _ _ _ _ h dX10_rank_17 hP hD hS
set_option maxHeartbeats 4000000 in
set_option maxRecDepth 100000 in
theorem mtX10_unrank (l : Launch) (D : va_G) (cI cJ cO : ClassId) (PL : va_W) (sz : Nat) (a_this : Nat) (a_this_chosen : Nat) (a_this_factorial : Nat) (a_this_catalan : Nat) (a_this_parted : Nat) (a_this_closed : Nat) (f_this_now : Int32) (a_this_of : Nat) (a_this_buffer : Nat) (a_this_made : Nat) (a_this_stackOne : Nat) (a_this_stackOther : Nat) (a_this_stackLong : Nat) (a_this_left : Nat) (f_this_entryMany : Int32) (a_this_entryFamily : Nat) (a_this_entryOf : Nat) (a_this_entryRank : Nat) (c_this_buffer : Nat → Int32) (c_this_left : Nat → Int32) (c_this_made : Nat → Int32) (c_this_stackLong : Nat → Int64) (c_this_stackOne : Nat → Int32) (c_this_catalan : Nat → Int64) (c_this_chosen : Nat → Int64) (c_this_closed : Nat → Int64) (c_this_factorial : Nat → Int64) (c_this_of : Nat → Int32) (c_this_parted : Nat → Int64) (v_p1 : Int64) (r0 : Int32 × (Nat → Int32) × (Nat → Int32) × (Nat → Int32) × (Nat → Int64) × (Nat → Int32)) (h : fX10_unrank f_this_now c_this_buffer c_this_left c_this_made c_this_stackLong c_this_stackOne c_this_catalan c_this_chosen c_this_closed c_this_factorial c_this_of c_this_parted v_p1 = some r0) : Met l yX10_unrank (rk_w yX10_unrank cX10_unrank 3 (some .int)) rmX10_unrank (va_Pc [.ref a_this, .long v_p1] (rk_B D (rk_TY cI cJ cO) [(a_this_buffer, .inl (cI, 60, .inl c_this_buffer)), (a_this_left, .inl (cI, 4, .inl c_this_left)), (a_this_made, .inl (cI, 60, .inl c_this_made)), (a_this_stackLong, .inl (cJ, 64, .inr (.inl c_this_stackLong))), (a_this_stackOne, .inl (cI, 64, .inl c_this_stackOne))] [(a_this, .inr (9, [.ref a_this_chosen, .ref a_this_factorial, .ref a_this_catalan, .ref a_this_parted, .ref a_this_closed, .int f_this_now, .ref a_this_of, .ref a_this_buffer, .ref a_this_made, .ref a_this_stackOne, .ref a_this_stackOther, .ref a_this_stackLong, .ref a_this_left, .int f_this_entryMany, .ref a_this_entryFamily, .ref a_this_entryOf, .ref a_this_entryRank])), (a_this_catalan, .inl (cJ, 31, .inr (.inl c_this_catalan))), (a_this_chosen, .inl (cJ, 3721, .inr (.inl c_this_chosen))), (a_this_closed, .inl (cJ, 1722, .inr (.inl c_this_closed))), (a_this_factorial, .inl (cJ, 21, .inr (.inl c_this_factorial))), (a_this_of, .inl (cI, 4, .inl c_this_of)), (a_this_parted, .inl (cJ, 3721, .inr (.inl c_this_parted)))] PL sz)) (rk_Qi r0.1 D [(a_this_buffer, .inl (cI, 60, .inl r0.2.1)), (a_this_left, .inl (cI, 4, .inl r0.2.2.1)), (a_this_made, .inl (cI, 60, .inl r0.2.2.2.1)), (a_this_stackLong, .inl (cJ, 64, .inr (.inl r0.2.2.2.2.1))), (a_this_stackOne, .inl (cI, 64, .inl r0.2.2.2.2.2))] [(a_this_buffer, .inl (cI, 60, .inl c_this_buffer)), (a_this_left, .inl (cI, 4, .inl c_this_left)), (a_this_made, .inl (cI, 60, .inl c_this_made)), (a_this_stackLong, .inl (cJ, 64, .inr (.inl c_this_stackLong))), (a_this_stackOne, .inl (cI, 64, .inl c_this_stackOne))] sz) 0 0 (va_A [(a_this_buffer, .inl (cI, 60, .inl c_this_buffer)), (a_this_left, .inl (cI, 4, .inl c_this_left)), (a_this_made, .inl (cI, 60, .inl c_this_made)), (a_this_stackLong, .inl (cJ, 64, .inr (.inl c_this_stackLong))), (a_this_stackOne, .inl (cI, 64, .inl c_this_stackOne))] sz) := by
  refine rk_meti h (fun x : Int32 × (Nat → Int32) × (Nat → Int32) × (Nat → Int32) × (Nat → Int64) × (Nat → Int32) => x.1) (fun x => [(a_this_buffer, .inl (cI, 60, .inl x.2.1)), (a_this_left, .inl (cI, 4, .inl x.2.2.1)), (a_this_made, .inl (cI, 60, .inl x.2.2.2.1)), (a_this_stackLong, .inl (cJ, 64, .inr (.inl x.2.2.2.2.1))), (a_this_stackOne, .inl (cI, 64, .inl x.2.2.2.2.2))]) (by decide) (Nat.le_of_ble_eq_true rfl) ?_
  intro p e s m args below meth c A ls Q hret hname hF hP hD hA hV hR0 hn hPL hnl hl h hS
  have hx := hF.1
  have hb := hF.2.1
  have hml := hF.2.2.1
  have hown : s.vm.findClass RX10 = some m.cls := hF.2.2.2.1
  have htc := hF.2.2.2.2
  have hP : va_P D vwCl [(a_this_buffer, .inl (cI, 60, .inl c_this_buffer)), (a_this_left, .inl (cI, 4, .inl c_this_left)), (a_this_made, .inl (cI, 60, .inl c_this_made)), (a_this_stackLong, .inl (cJ, 64, .inr (.inl c_this_stackLong))), (a_this_stackOne, .inl (cI, 64, .inl c_this_stackOne))] s.heap := hP
  have hD : va_D A [(a_this_buffer, .inl (cI, 60, .inl c_this_buffer)), (a_this_left, .inl (cI, 4, .inl c_this_left)), (a_this_made, .inl (cI, 60, .inl c_this_made)), (a_this_stackLong, .inl (cJ, 64, .inr (.inl c_this_stackLong))), (a_this_stackOne, .inl (cI, 64, .inl c_this_stackOne))] := hD
  have hR0 : va_P D vwCl [(a_this, .inr (9, [.ref a_this_chosen, .ref a_this_factorial, .ref a_this_catalan, .ref a_this_parted, .ref a_this_closed, .int f_this_now, .ref a_this_of, .ref a_this_buffer, .ref a_this_made, .ref a_this_stackOne, .ref a_this_stackOther, .ref a_this_stackLong, .ref a_this_left, .int f_this_entryMany, .ref a_this_entryFamily, .ref a_this_entryOf, .ref a_this_entryRank])), (a_this_catalan, .inl (cJ, 31, .inr (.inl c_this_catalan))), (a_this_chosen, .inl (cJ, 3721, .inr (.inl c_this_chosen))), (a_this_closed, .inl (cJ, 1722, .inr (.inl c_this_closed))), (a_this_factorial, .inl (cJ, 21, .inr (.inl c_this_factorial))), (a_this_of, .inl (cI, 4, .inl c_this_of)), (a_this_parted, .inl (cJ, 3721, .inr (.inl c_this_parted)))] s.heap := hR0
  have hR := hR0
  have hl : lv_has ls 3 [(0, .ref a_this), (1, .long v_p1)] := hl
  unfold fX10_unrank at h
  refine lv_lload_n hx hb dX10_unrank_0 rfl (lv_at hl 1 rfl) ?_
  refine lv_lconst (v := 0) hx hb dX10_unrank_1 (by decide) ?_
  refine lv_aload_n hx hb dX10_unrank_2 rfl (lv_at hl 0 rfl) ?_
  obtain ⟨r_3, hc_3, h⟩ := rk_bd h
  refine rk_l (wr := [(a_this_buffer, .inl (cI, 60, .inl c_this_buffer)), (a_this_left, .inl (cI, 4, .inl c_this_left)), (a_this_made, .inl (cI, 60, .inl c_this_made)), (a_this_stackLong, .inl (cJ, 64, .inr (.inl c_this_stackLong))), (a_this_stackOne, .inl (cI, 64, .inl c_this_stackOne))]) (va_runV (C := RX10) (As := []) (rest := [.long (0 : Int64), .long v_p1]) hF (mtX10_manyNow l D cI cJ cO PL _ a_this a_this_chosen a_this_factorial a_this_catalan a_this_parted a_this_closed f_this_now a_this_of a_this_buffer a_this_made a_this_stackOne a_this_stackOther a_this_stackLong a_this_left f_this_entryMany a_this_entryFamily a_this_entryOf a_this_entryRank c_this_catalan c_this_chosen c_this_closed c_this_factorial c_this_of c_this_parted r_3 hc_3) (cwV 0 htc (rk_gV w_4_166 w_4_168 ws_52 w_1_7 w_4_169) rfl rfl rfl (by decide +kernel) ⟨(Nat.le_of_ble_eq_true rfl), (Nat.le_of_ble_eq_true rfl)⟩) (rk_preV (va_recv hV.1 hR (ci := 9) (q0 := 0) rfl rfl) (rk_preS hP hD hS hR hn hPL hnl hV [] [(false, 0), (false, 1), (false, 2), (false, 3), (false, 4), (false, 5), (false, 6)] rfl (by decide) rfl (by decide))) rfl rfl hl.1 rfl (lv_room (Nat.le_of_ble_eq_true rfl)) dX10_unrank_3 ⟨(Nat.le_of_ble_eq_true rfl), (Nat.le_of_ble_eq_true rfl)⟩) hP hD hS hA hR0 hn [] [0, 1, 2, 3, 4] rfl rfl (by decide) (by decide) (fun H locs hP hD hS hR => ?_)
  have hP : va_P D vwCl [(a_this_buffer, .inl (cI, 60, .inl c_this_buffer)), (a_this_left, .inl (cI, 4, .inl c_this_left)), (a_this_made, .inl (cI, 60, .inl c_this_made)), (a_this_stackLong, .inl (cJ, 64, .inr (.inl c_this_stackLong))), (a_this_stackOne, .inl (cI, 64, .inl c_this_stackOne))] H := hP
  have hD : va_D A [(a_this_buffer, .inl (cI, 60, .inl c_this_buffer)), (a_this_left, .inl (cI, 4, .inl c_this_left)), (a_this_made, .inl (cI, 60, .inl c_this_made)), (a_this_stackLong, .inl (cJ, 64, .inr (.inl c_this_stackLong))), (a_this_stackOne, .inl (cI, 64, .inl c_this_stackOne))] := hD
  refine lv_lconst (v := 1) hx hb dX10_unrank_6 (by decide) ?_
  refine lv_lsub hx hb dX10_unrank_7 ?_
  obtain ⟨r_8, hc_8, h⟩ := rk_bd h
  refine rk_i (wr := [(a_this_buffer, .inl (cI, 60, .inl c_this_buffer)), (a_this_left, .inl (cI, 4, .inl c_this_left)), (a_this_made, .inl (cI, 60, .inl c_this_made)), (a_this_stackLong, .inl (cJ, 64, .inr (.inl c_this_stackLong))), (a_this_stackOne, .inl (cI, 64, .inl c_this_stackOne))]) (va_runS (As := [.long v_p1, .long (0 : Int64), .long (r_3 - (1 : Int64))]) (rest := []) hF (mtX10_within l D cI cJ cO PL _ v_p1 (0 : Int64) (r_3 - (1 : Int64)) r_8 hc_8) (va_cwS 3 htc (rk_gVS w_4_55 w_4_56 w_1_7 w_4_57) rfl rfl rfl (by decide +kernel) ⟨(Nat.le_of_ble_eq_true rfl), (Nat.le_of_ble_eq_true rfl)⟩) (rk_preS hP hD hS hR hn hPL hnl hV [] [] rfl (by decide) rfl (by decide)) rfl rfl hl.1 rfl (lv_room (Nat.le_of_ble_eq_true rfl)) dX10_unrank_8 ⟨(Nat.le_of_ble_eq_true rfl), (Nat.le_of_ble_eq_true rfl)⟩) hP hD hS hA hR0 hn [] [0, 1, 2, 3, 4] rfl rfl (by decide) (by decide) (fun H locs hP hD hS hR => ?_)
  have hP : va_P D vwCl [(a_this_buffer, .inl (cI, 60, .inl c_this_buffer)), (a_this_left, .inl (cI, 4, .inl c_this_left)), (a_this_made, .inl (cI, 60, .inl c_this_made)), (a_this_stackLong, .inl (cJ, 64, .inr (.inl c_this_stackLong))), (a_this_stackOne, .inl (cI, 64, .inl c_this_stackOne))] H := hP
  have hD : va_D A [(a_this_buffer, .inl (cI, 60, .inl c_this_buffer)), (a_this_left, .inl (cI, 4, .inl c_this_left)), (a_this_made, .inl (cI, 60, .inl c_this_made)), (a_this_stackLong, .inl (cJ, 64, .inr (.inl c_this_stackLong))), (a_this_stackOne, .inl (cI, 64, .inl c_this_stackOne))] := hD
  refine lv_if_ne (tgt := 16) hx hb dX10_unrank_11 (by decide) (fun hc1 => ?_) (fun hc1 => ?_)
  · have h := rk_if hc1 h
    refine lv_aload_n hx hb dX10_unrank_16 rfl (lv_at hl 0 rfl) ?_
    refine lv_lload_n hx hb dX10_unrank_17 rfl (lv_at hl 1 rfl) ?_
    obtain ⟨r_18, hc_18, h⟩ := rk_bd h
    refine rk_v (wr := [(a_this_buffer, .inl (cI, 60, .inl c_this_buffer))]) (va_runV (C := RX10) (As := [.long v_p1]) (rest := []) hF (mtX10_makes l D cI cJ cO PL _ a_this a_this_chosen a_this_factorial a_this_catalan a_this_parted a_this_closed f_this_now a_this_of a_this_buffer a_this_made a_this_stackOne a_this_stackOther a_this_stackLong a_this_left f_this_entryMany a_this_entryFamily a_this_entryOf a_this_entryRank c_this_left c_this_made c_this_stackLong c_this_stackOne c_this_catalan c_this_chosen c_this_closed c_this_of c_this_parted v_p1 r_18 hc_18) (cwV 1 htc (rk_gV w_4_67 w_4_69 ws_37 w_1_7 w_4_70) rfl rfl rfl (by decide +kernel) ⟨(Nat.le_of_ble_eq_true rfl), (Nat.le_of_ble_eq_true rfl)⟩) (rk_preV (va_recv hV.1 hR (ci := 9) (q0 := 0) rfl rfl) (rk_preS hP hD hS hR hn hPL hnl hV [1, 2, 3, 4] [(false, 0), (false, 1), (false, 2), (false, 3), (false, 5), (false, 6)] rfl (by decide) rfl (by decide))) rfl rfl hl.1 rfl (lv_room (Nat.le_of_ble_eq_true rfl)) dX10_unrank_18 ⟨(Nat.le_of_ble_eq_true rfl), (Nat.le_of_ble_eq_true rfl)⟩) hP hD hS hA hR0 hn [1, 2, 3, 4] [0] rfl rfl (by decide) (by decide) (fun H locs hP hD hS hR => ?_)
    have hP : va_P D vwCl [(a_this_buffer, .inl (cI, 60, .inl c_this_buffer)), (a_this_left, .inl (cI, 4, .inl r_18.1)), (a_this_made, .inl (cI, 60, .inl r_18.2.1)), (a_this_stackLong, .inl (cJ, 64, .inr (.inl r_18.2.2.1))), (a_this_stackOne, .inl (cI, 64, .inl r_18.2.2.2))] H := hP
    have hD : va_D A [(a_this_buffer, .inl (cI, 60, .inl c_this_buffer)), (a_this_left, .inl (cI, 4, .inl r_18.1)), (a_this_made, .inl (cI, 60, .inl r_18.2.1)), (a_this_stackLong, .inl (cJ, 64, .inr (.inl r_18.2.2.1))), (a_this_stackOne, .inl (cI, 64, .inl r_18.2.2.2))] := hD
    refine lv_aload_n hx hb dX10_unrank_21 rfl (lv_at hl 0 rfl) ?_
    obtain ⟨r_22, hc_22, h⟩ := rk_bd h
    refine rk_i (wr := [(a_this_left, .inl (cI, 4, .inl r_18.1)), (a_this_made, .inl (cI, 60, .inl r_18.2.1)), (a_this_stackLong, .inl (cJ, 64, .inr (.inl r_18.2.2.1))), (a_this_stackOne, .inl (cI, 64, .inl r_18.2.2.2))]) (va_runV (C := RX10) (As := []) (rest := []) hF (mtX10_stores l D cI cJ cO PL _ a_this a_this_chosen a_this_factorial a_this_catalan a_this_parted a_this_closed f_this_now a_this_of a_this_buffer a_this_made a_this_stackOne a_this_stackOther a_this_stackLong a_this_left f_this_entryMany a_this_entryFamily a_this_entryOf a_this_entryRank c_this_buffer r_18.2.1 c_this_of r_22 hc_22) (cwV 0 htc (rk_gV w_4_123 w_4_125 ws_51 w_1_7 w_4_126) rfl rfl rfl (by decide +kernel) ⟨(Nat.le_of_ble_eq_true rfl), (Nat.le_of_ble_eq_true rfl)⟩) (rk_preV (va_recv hV.1 hR (ci := 9) (q0 := 0) rfl rfl) (rk_preS hP hD hS hR hn hPL hnl hV [0] [(false, 0), (true, 2), (false, 5)] rfl (by decide) rfl (by decide))) rfl rfl hl.1 rfl (lv_room (Nat.le_of_ble_eq_true rfl)) dX10_unrank_22 ⟨(Nat.le_of_ble_eq_true rfl), (Nat.le_of_ble_eq_true rfl)⟩) hP hD hS hA hR0 hn [0] [1, 2, 3, 4] rfl rfl (by decide) (by decide) (fun H locs hP hD hS hR => ?_)
    have hP : va_P D vwCl [(a_this_left, .inl (cI, 4, .inl r_18.1)), (a_this_made, .inl (cI, 60, .inl r_18.2.1)), (a_this_stackLong, .inl (cJ, 64, .inr (.inl r_18.2.2.1))), (a_this_stackOne, .inl (cI, 64, .inl r_18.2.2.2)), (a_this_buffer, .inl (cI, 60, .inl r_22.2))] H := hP
    have hD : va_D A [(a_this_left, .inl (cI, 4, .inl r_18.1)), (a_this_made, .inl (cI, 60, .inl r_18.2.1)), (a_this_stackLong, .inl (cJ, 64, .inr (.inl r_18.2.2.1))), (a_this_stackOne, .inl (cI, 64, .inl r_18.2.2.2)), (a_this_buffer, .inl (cI, 60, .inl r_22.2))] := hD
    refine lv_if_eq (tgt := 32) hx hb dX10_unrank_25 (by decide) (fun hc2 => ?_) (fun hc2 => ?_)
    · have h := rk_if hc2 h
      refine lv_iconst (v := 0) hx hb dX10_unrank_32 (by decide) ?_
      exact hret ((0 : Int32), r_22.2, r_18.1, r_18.2.1, r_18.2.2.1, r_18.2.2.2) _ _ _ _ h dX10_unrank_33 (hP.sub [4, 0, 1, 2, 3] rfl) (hD.sub [4, 0, 1, 2, 3] (by decide) rfl) hS
    · have h := rk_nif hc2 h
      refine lv_iconst (v := 1) hx hb dX10_unrank_28 (by decide) ?_
      refine lv_goto (tgt := 33) hx hb dX10_unrank_29 (by decide) ?_
      exact hret ((1 : Int32), r_22.2, r_18.1, r_18.2.1, r_18.2.2.1, r_18.2.2.2) _ _ _ _ h dX10_unrank_33 (hP.sub [4, 0, 1, 2, 3] rfl) (hD.sub [4, 0, 1, 2, 3] (by decide) rfl) hS
  · have h := rk_nnif hc1 h
    refine lv_iconst (v := (-1)) hx hb dX10_unrank_14 (by decide) ?_
    exact hret ((-1 : Int32), c_this_buffer, c_this_left, c_this_made, c_this_stackLong, c_this_stackOne) _ _ _ _ h dX10_unrank_15 hP hD hS
set_option maxHeartbeats 4000000 in
set_option maxRecDepth 100000 in
theorem mtX10_step (l : Launch) (D : va_G) (cI cJ cO : ClassId) (PL : va_W) (sz : Nat) (a_this : Nat) (a_this_chosen : Nat) (a_this_factorial : Nat) (a_this_catalan : Nat) (a_this_parted : Nat) (a_this_closed : Nat) (f_this_now : Int32) (a_this_of : Nat) (a_this_buffer : Nat) (a_this_made : Nat) (a_this_stackOne : Nat) (a_this_stackOther : Nat) (a_this_stackLong : Nat) (a_this_left : Nat) (f_this_entryMany : Int32) (a_this_entryFamily : Nat) (a_this_entryOf : Nat) (a_this_entryRank : Nat) (c_this_buffer : Nat → Int32) (c_this_left : Nat → Int32) (c_this_made : Nat → Int32) (c_this_stackLong : Nat → Int64) (c_this_stackOne : Nat → Int32) (c_this_catalan : Nat → Int64) (c_this_chosen : Nat → Int64) (c_this_closed : Nat → Int64) (c_this_factorial : Nat → Int64) (c_this_of : Nat → Int32) (c_this_parted : Nat → Int64) (v_p1 : Int32) (r0 : Int32 × (Nat → Int32) × (Nat → Int32) × (Nat → Int32) × (Nat → Int64) × (Nat → Int32)) (h : fX10_step f_this_now c_this_buffer c_this_left c_this_made c_this_stackLong c_this_stackOne c_this_catalan c_this_chosen c_this_closed c_this_factorial c_this_of c_this_parted v_p1 = some r0) : Met l yX10_step (rk_w yX10_step cX10_step 4 (some .int)) rmX10_step (va_Pc [.ref a_this, .int v_p1] (rk_B D (rk_TY cI cJ cO) [(a_this_buffer, .inl (cI, 60, .inl c_this_buffer)), (a_this_left, .inl (cI, 4, .inl c_this_left)), (a_this_made, .inl (cI, 60, .inl c_this_made)), (a_this_stackLong, .inl (cJ, 64, .inr (.inl c_this_stackLong))), (a_this_stackOne, .inl (cI, 64, .inl c_this_stackOne))] [(a_this, .inr (9, [.ref a_this_chosen, .ref a_this_factorial, .ref a_this_catalan, .ref a_this_parted, .ref a_this_closed, .int f_this_now, .ref a_this_of, .ref a_this_buffer, .ref a_this_made, .ref a_this_stackOne, .ref a_this_stackOther, .ref a_this_stackLong, .ref a_this_left, .int f_this_entryMany, .ref a_this_entryFamily, .ref a_this_entryOf, .ref a_this_entryRank])), (a_this_catalan, .inl (cJ, 31, .inr (.inl c_this_catalan))), (a_this_chosen, .inl (cJ, 3721, .inr (.inl c_this_chosen))), (a_this_closed, .inl (cJ, 1722, .inr (.inl c_this_closed))), (a_this_factorial, .inl (cJ, 21, .inr (.inl c_this_factorial))), (a_this_of, .inl (cI, 4, .inl c_this_of)), (a_this_parted, .inl (cJ, 3721, .inr (.inl c_this_parted)))] PL sz)) (rk_Qi r0.1 D [(a_this_buffer, .inl (cI, 60, .inl r0.2.1)), (a_this_left, .inl (cI, 4, .inl r0.2.2.1)), (a_this_made, .inl (cI, 60, .inl r0.2.2.2.1)), (a_this_stackLong, .inl (cJ, 64, .inr (.inl r0.2.2.2.2.1))), (a_this_stackOne, .inl (cI, 64, .inl r0.2.2.2.2.2))] [(a_this_buffer, .inl (cI, 60, .inl c_this_buffer)), (a_this_left, .inl (cI, 4, .inl c_this_left)), (a_this_made, .inl (cI, 60, .inl c_this_made)), (a_this_stackLong, .inl (cJ, 64, .inr (.inl c_this_stackLong))), (a_this_stackOne, .inl (cI, 64, .inl c_this_stackOne))] sz) 0 0 (va_A [(a_this_buffer, .inl (cI, 60, .inl c_this_buffer)), (a_this_left, .inl (cI, 4, .inl c_this_left)), (a_this_made, .inl (cI, 60, .inl c_this_made)), (a_this_stackLong, .inl (cJ, 64, .inr (.inl c_this_stackLong))), (a_this_stackOne, .inl (cI, 64, .inl c_this_stackOne))] sz) := by
  refine rk_meti h (fun x : Int32 × (Nat → Int32) × (Nat → Int32) × (Nat → Int32) × (Nat → Int64) × (Nat → Int32) => x.1) (fun x => [(a_this_buffer, .inl (cI, 60, .inl x.2.1)), (a_this_left, .inl (cI, 4, .inl x.2.2.1)), (a_this_made, .inl (cI, 60, .inl x.2.2.2.1)), (a_this_stackLong, .inl (cJ, 64, .inr (.inl x.2.2.2.2.1))), (a_this_stackOne, .inl (cI, 64, .inl x.2.2.2.2.2))]) (by decide) (Nat.le_of_ble_eq_true rfl) ?_
  intro p e s m args below meth c A ls Q hret hname hF hP hD hA hV hR0 hn hPL hnl hl h hS
  have hx := hF.1
  have hb := hF.2.1
  have hml := hF.2.2.1
  have hown : s.vm.findClass RX10 = some m.cls := hF.2.2.2.1
  have htc := hF.2.2.2.2
  have hP : va_P D vwCl [(a_this_buffer, .inl (cI, 60, .inl c_this_buffer)), (a_this_left, .inl (cI, 4, .inl c_this_left)), (a_this_made, .inl (cI, 60, .inl c_this_made)), (a_this_stackLong, .inl (cJ, 64, .inr (.inl c_this_stackLong))), (a_this_stackOne, .inl (cI, 64, .inl c_this_stackOne))] s.heap := hP
  have hD : va_D A [(a_this_buffer, .inl (cI, 60, .inl c_this_buffer)), (a_this_left, .inl (cI, 4, .inl c_this_left)), (a_this_made, .inl (cI, 60, .inl c_this_made)), (a_this_stackLong, .inl (cJ, 64, .inr (.inl c_this_stackLong))), (a_this_stackOne, .inl (cI, 64, .inl c_this_stackOne))] := hD
  have hR0 : va_P D vwCl [(a_this, .inr (9, [.ref a_this_chosen, .ref a_this_factorial, .ref a_this_catalan, .ref a_this_parted, .ref a_this_closed, .int f_this_now, .ref a_this_of, .ref a_this_buffer, .ref a_this_made, .ref a_this_stackOne, .ref a_this_stackOther, .ref a_this_stackLong, .ref a_this_left, .int f_this_entryMany, .ref a_this_entryFamily, .ref a_this_entryOf, .ref a_this_entryRank])), (a_this_catalan, .inl (cJ, 31, .inr (.inl c_this_catalan))), (a_this_chosen, .inl (cJ, 3721, .inr (.inl c_this_chosen))), (a_this_closed, .inl (cJ, 1722, .inr (.inl c_this_closed))), (a_this_factorial, .inl (cJ, 21, .inr (.inl c_this_factorial))), (a_this_of, .inl (cI, 4, .inl c_this_of)), (a_this_parted, .inl (cJ, 3721, .inr (.inl c_this_parted)))] s.heap := hR0
  have hR := hR0
  have hl : lv_has ls 4 [(0, .ref a_this), (1, .int v_p1)] := hl
  unfold fX10_step at h
  refine lv_iload_n hx hb dX10_step_0 rfl (lv_at hl 1 rfl) ?_
  refine lv_i2l hx hb dX10_step_1 rfl ?_
  refine lv_ldc2 (v := (-1000000 : Int64)) hx hb hown (htc _ w_5_26) dX10_step_2 ?_
  refine lv_ldc2 (v := (1000000 : Int64)) hx hb hown (htc _ w_5_27) dX10_step_5 ?_
  obtain ⟨r_8, hc_8, h⟩ := rk_bd h
  refine rk_i (wr := [(a_this_buffer, .inl (cI, 60, .inl c_this_buffer)), (a_this_left, .inl (cI, 4, .inl c_this_left)), (a_this_made, .inl (cI, 60, .inl c_this_made)), (a_this_stackLong, .inl (cJ, 64, .inr (.inl c_this_stackLong))), (a_this_stackOne, .inl (cI, 64, .inl c_this_stackOne))]) (va_runS (As := [.long v_p1.toInt64, .long (-1000000 : Int64), .long (1000000 : Int64)]) (rest := []) hF (mtX10_within l D cI cJ cO PL _ v_p1.toInt64 (-1000000 : Int64) (1000000 : Int64) r_8 hc_8) (va_cwS 3 htc (rk_gVS w_4_55 w_4_56 w_1_7 w_4_57) rfl rfl rfl (by decide +kernel) ⟨(Nat.le_of_ble_eq_true rfl), (Nat.le_of_ble_eq_true rfl)⟩) (rk_preS hP hD hS hR hn hPL hnl hV [] [] rfl (by decide) rfl (by decide)) rfl rfl hl.1 rfl (lv_room (Nat.le_of_ble_eq_true rfl)) dX10_step_8 ⟨(Nat.le_of_ble_eq_true rfl), (Nat.le_of_ble_eq_true rfl)⟩) hP hD hS hA hR0 hn [] [0, 1, 2, 3, 4] rfl rfl (by decide) (by decide) (fun H locs hP hD hS hR => ?_)
  have hP : va_P D vwCl [(a_this_buffer, .inl (cI, 60, .inl c_this_buffer)), (a_this_left, .inl (cI, 4, .inl c_this_left)), (a_this_made, .inl (cI, 60, .inl c_this_made)), (a_this_stackLong, .inl (cJ, 64, .inr (.inl c_this_stackLong))), (a_this_stackOne, .inl (cI, 64, .inl c_this_stackOne))] H := hP
  have hD : va_D A [(a_this_buffer, .inl (cI, 60, .inl c_this_buffer)), (a_this_left, .inl (cI, 4, .inl c_this_left)), (a_this_made, .inl (cI, 60, .inl c_this_made)), (a_this_stackLong, .inl (cJ, 64, .inr (.inl c_this_stackLong))), (a_this_stackOne, .inl (cI, 64, .inl c_this_stackOne))] := hD
  refine lv_if_ne (tgt := 16) hx hb dX10_step_11 (by decide) (fun hc1 => ?_) (fun hc1 => ?_)
  · have h := rk_if hc1 h
    refine lv_aload_n hx hb dX10_step_16 rfl (lv_at hl 0 rfl) ?_
    obtain ⟨r_17, hc_17, h⟩ := rk_bd h
    refine rk_i (wr := [(a_this_buffer, .inl (cI, 60, .inl c_this_buffer)), (a_this_left, .inl (cI, 4, .inl c_this_left)), (a_this_made, .inl (cI, 60, .inl c_this_made)), (a_this_stackLong, .inl (cJ, 64, .inr (.inl c_this_stackLong)))]) (va_runV (C := RX10) (As := []) (rest := []) hF (mtX10_isGood l D cI cJ cO PL _ a_this a_this_chosen a_this_factorial a_this_catalan a_this_parted a_this_closed f_this_now a_this_of a_this_buffer a_this_made a_this_stackOne a_this_stackOther a_this_stackLong a_this_left f_this_entryMany a_this_entryFamily a_this_entryOf a_this_entryRank c_this_stackOne c_this_buffer c_this_of r_17 hc_17) (cwV 0 htc (rk_gV w_4_189 w_4_191 ws_54 w_1_7 w_4_192) rfl rfl rfl (by decide +kernel) ⟨(Nat.le_of_ble_eq_true rfl), (Nat.le_of_ble_eq_true rfl)⟩) (rk_preV (va_recv hV.1 hR (ci := 9) (q0 := 0) rfl rfl) (rk_preS hP hD hS hR hn hPL hnl hV [4] [(false, 0), (true, 0), (false, 5)] rfl (by decide) rfl (by decide))) rfl rfl hl.1 rfl (lv_room (Nat.le_of_ble_eq_true rfl)) dX10_step_17 ⟨(Nat.le_of_ble_eq_true rfl), (Nat.le_of_ble_eq_true rfl)⟩) hP hD hS hA hR0 hn [4] [0, 1, 2, 3] rfl rfl (by decide) (by decide) (fun H locs hP hD hS hR => ?_)
    have hP : va_P D vwCl [(a_this_buffer, .inl (cI, 60, .inl c_this_buffer)), (a_this_left, .inl (cI, 4, .inl c_this_left)), (a_this_made, .inl (cI, 60, .inl c_this_made)), (a_this_stackLong, .inl (cJ, 64, .inr (.inl c_this_stackLong))), (a_this_stackOne, .inl (cI, 64, .inl r_17.2))] H := hP
    have hD : va_D A [(a_this_buffer, .inl (cI, 60, .inl c_this_buffer)), (a_this_left, .inl (cI, 4, .inl c_this_left)), (a_this_made, .inl (cI, 60, .inl c_this_made)), (a_this_stackLong, .inl (cJ, 64, .inr (.inl c_this_stackLong))), (a_this_stackOne, .inl (cI, 64, .inl r_17.2))] := hD
    refine lv_if_ne (tgt := 26) hx hb dX10_step_20 (by decide) (fun hc2 => ?_) (fun hc2 => ?_)
    · have h := rk_if hc2 h
      refine lv_aload_n hx hb dX10_step_26 rfl (lv_at hl 0 rfl) ?_
      obtain ⟨r_27, hc_27, h⟩ := rk_bd h
      refine rk_l (wr := [(a_this_buffer, .inl (cI, 60, .inl c_this_buffer)), (a_this_made, .inl (cI, 60, .inl c_this_made))]) (va_runV (C := RX10) (As := []) (rest := []) hF (mtX10_rankNow l D cI cJ cO PL _ a_this a_this_chosen a_this_factorial a_this_catalan a_this_parted a_this_closed f_this_now a_this_of a_this_buffer a_this_made a_this_stackOne a_this_stackOther a_this_stackLong a_this_left f_this_entryMany a_this_entryFamily a_this_entryOf a_this_entryRank c_this_left c_this_stackLong r_17.2 c_this_buffer c_this_catalan c_this_chosen c_this_closed c_this_factorial c_this_of c_this_parted r_27 hc_27) (cwV 0 htc (rk_gV w_4_221 w_4_223 ws_61 w_1_7 w_4_224) rfl rfl rfl (by decide +kernel) ⟨(Nat.le_of_ble_eq_true rfl), (Nat.le_of_ble_eq_true rfl)⟩) (rk_preV (va_recv hV.1 hR (ci := 9) (q0 := 0) rfl rfl) (rk_preS hP hD hS hR hn hPL hnl hV [1, 3, 4] [(false, 0), (true, 0), (false, 1), (false, 2), (false, 3), (false, 4), (false, 5), (false, 6)] rfl (by decide) rfl (by decide))) rfl rfl hl.1 rfl (lv_room (Nat.le_of_ble_eq_true rfl)) dX10_step_27 ⟨(Nat.le_of_ble_eq_true rfl), (Nat.le_of_ble_eq_true rfl)⟩) hP hD hS hA hR0 hn [1, 3, 4] [0, 2] rfl rfl (by decide) (by decide) (fun H locs hP hD hS hR => ?_)
      have hP : va_P D vwCl [(a_this_buffer, .inl (cI, 60, .inl c_this_buffer)), (a_this_made, .inl (cI, 60, .inl c_this_made)), (a_this_left, .inl (cI, 4, .inl r_27.2.1)), (a_this_stackLong, .inl (cJ, 64, .inr (.inl r_27.2.2.1))), (a_this_stackOne, .inl (cI, 64, .inl r_27.2.2.2))] H := hP
      have hD : va_D A [(a_this_buffer, .inl (cI, 60, .inl c_this_buffer)), (a_this_made, .inl (cI, 60, .inl c_this_made)), (a_this_left, .inl (cI, 4, .inl r_27.2.1)), (a_this_stackLong, .inl (cJ, 64, .inr (.inl r_27.2.2.1))), (a_this_stackOne, .inl (cI, 64, .inl r_27.2.2.2))] := hD
      refine lv_iload_n hx hb dX10_step_30 rfl (lv_at hl 1 rfl) ?_
      refine lv_i2l hx hb dX10_step_31 rfl ?_
      refine lv_ladd hx hb dX10_step_32 ?_
      refine lv_lstore_n (lv' := [(2, .long (r_27.1 + v_p1.toInt64)), (0, .ref a_this), (1, .int v_p1)]) hx hb dX10_step_33 rfl hl (by decide) rfl (fun ls hl => ?_)
      refine lv_lload_n hx hb dX10_step_34 rfl (lv_at hl 0 rfl) ?_
      refine lv_lconst (v := 0) hx hb dX10_step_35 (by decide) ?_
      refine lv_aload_n hx hb dX10_step_36 rfl (lv_at hl 1 rfl) ?_
      obtain ⟨r_37, hc_37, h⟩ := rk_bd h
      refine rk_l (wr := [(a_this_buffer, .inl (cI, 60, .inl c_this_buffer)), (a_this_made, .inl (cI, 60, .inl c_this_made)), (a_this_left, .inl (cI, 4, .inl r_27.2.1)), (a_this_stackLong, .inl (cJ, 64, .inr (.inl r_27.2.2.1))), (a_this_stackOne, .inl (cI, 64, .inl r_27.2.2.2))]) (va_runV (C := RX10) (As := []) (rest := [.long (0 : Int64), .long (r_27.1 + v_p1.toInt64)]) hF (mtX10_manyNow l D cI cJ cO PL _ a_this a_this_chosen a_this_factorial a_this_catalan a_this_parted a_this_closed f_this_now a_this_of a_this_buffer a_this_made a_this_stackOne a_this_stackOther a_this_stackLong a_this_left f_this_entryMany a_this_entryFamily a_this_entryOf a_this_entryRank c_this_catalan c_this_chosen c_this_closed c_this_factorial c_this_of c_this_parted r_37 hc_37) (cwV 0 htc (rk_gV w_4_166 w_4_168 ws_52 w_1_7 w_4_169) rfl rfl rfl (by decide +kernel) ⟨(Nat.le_of_ble_eq_true rfl), (Nat.le_of_ble_eq_true rfl)⟩) (rk_preV (va_recv hV.1 hR (ci := 9) (q0 := 0) rfl rfl) (rk_preS hP hD hS hR hn hPL hnl hV [] [(false, 0), (false, 1), (false, 2), (false, 3), (false, 4), (false, 5), (false, 6)] rfl (by decide) rfl (by decide))) rfl rfl hl.1 rfl (lv_room (Nat.le_of_ble_eq_true rfl)) dX10_step_37 ⟨(Nat.le_of_ble_eq_true rfl), (Nat.le_of_ble_eq_true rfl)⟩) hP hD hS hA hR0 hn [] [0, 1, 2, 3, 4] rfl rfl (by decide) (by decide) (fun H locs hP hD hS hR => ?_)
      have hP : va_P D vwCl [(a_this_buffer, .inl (cI, 60, .inl c_this_buffer)), (a_this_made, .inl (cI, 60, .inl c_this_made)), (a_this_left, .inl (cI, 4, .inl r_27.2.1)), (a_this_stackLong, .inl (cJ, 64, .inr (.inl r_27.2.2.1))), (a_this_stackOne, .inl (cI, 64, .inl r_27.2.2.2))] H := hP
      have hD : va_D A [(a_this_buffer, .inl (cI, 60, .inl c_this_buffer)), (a_this_made, .inl (cI, 60, .inl c_this_made)), (a_this_left, .inl (cI, 4, .inl r_27.2.1)), (a_this_stackLong, .inl (cJ, 64, .inr (.inl r_27.2.2.1))), (a_this_stackOne, .inl (cI, 64, .inl r_27.2.2.2))] := hD
      refine lv_lconst (v := 1) hx hb dX10_step_40 (by decide) ?_
      refine lv_lsub hx hb dX10_step_41 ?_
      obtain ⟨r_42, hc_42, h⟩ := rk_bd h
      refine rk_i (wr := [(a_this_buffer, .inl (cI, 60, .inl c_this_buffer)), (a_this_made, .inl (cI, 60, .inl c_this_made)), (a_this_left, .inl (cI, 4, .inl r_27.2.1)), (a_this_stackLong, .inl (cJ, 64, .inr (.inl r_27.2.2.1))), (a_this_stackOne, .inl (cI, 64, .inl r_27.2.2.2))]) (va_runS (As := [.long (r_27.1 + v_p1.toInt64), .long (0 : Int64), .long (r_37 - (1 : Int64))]) (rest := []) hF (mtX10_within l D cI cJ cO PL _ (r_27.1 + v_p1.toInt64) (0 : Int64) (r_37 - (1 : Int64)) r_42 hc_42) (va_cwS 3 htc (rk_gVS w_4_55 w_4_56 w_1_7 w_4_57) rfl rfl rfl (by decide +kernel) ⟨(Nat.le_of_ble_eq_true rfl), (Nat.le_of_ble_eq_true rfl)⟩) (rk_preS hP hD hS hR hn hPL hnl hV [] [] rfl (by decide) rfl (by decide)) rfl rfl hl.1 rfl (lv_room (Nat.le_of_ble_eq_true rfl)) dX10_step_42 ⟨(Nat.le_of_ble_eq_true rfl), (Nat.le_of_ble_eq_true rfl)⟩) hP hD hS hA hR0 hn [] [0, 1, 2, 3, 4] rfl rfl (by decide) (by decide) (fun H locs hP hD hS hR => ?_)
      have hP : va_P D vwCl [(a_this_buffer, .inl (cI, 60, .inl c_this_buffer)), (a_this_made, .inl (cI, 60, .inl c_this_made)), (a_this_left, .inl (cI, 4, .inl r_27.2.1)), (a_this_stackLong, .inl (cJ, 64, .inr (.inl r_27.2.2.1))), (a_this_stackOne, .inl (cI, 64, .inl r_27.2.2.2))] H := hP
      have hD : va_D A [(a_this_buffer, .inl (cI, 60, .inl c_this_buffer)), (a_this_made, .inl (cI, 60, .inl c_this_made)), (a_this_left, .inl (cI, 4, .inl r_27.2.1)), (a_this_stackLong, .inl (cJ, 64, .inr (.inl r_27.2.2.1))), (a_this_stackOne, .inl (cI, 64, .inl r_27.2.2.2))] := hD
      refine lv_if_ne (tgt := 51) hx hb dX10_step_45 (by decide) (fun hc3 => ?_) (fun hc3 => ?_)
      · have h := rk_if hc3 h
        refine lv_aload_n hx hb dX10_step_51 rfl (lv_at hl 1 rfl) ?_
        refine lv_lload_n hx hb dX10_step_52 rfl (lv_at hl 0 rfl) ?_
        obtain ⟨r_53, hc_53, h⟩ := rk_bd h
        refine rk_v (wr := [(a_this_buffer, .inl (cI, 60, .inl c_this_buffer))]) (va_runV (C := RX10) (As := [.long (r_27.1 + v_p1.toInt64)]) (rest := []) hF (mtX10_makes l D cI cJ cO PL _ a_this a_this_chosen a_this_factorial a_this_catalan a_this_parted a_this_closed f_this_now a_this_of a_this_buffer a_this_made a_this_stackOne a_this_stackOther a_this_stackLong a_this_left f_this_entryMany a_this_entryFamily a_this_entryOf a_this_entryRank r_27.2.1 c_this_made r_27.2.2.1 r_27.2.2.2 c_this_catalan c_this_chosen c_this_closed c_this_of c_this_parted (r_27.1 + v_p1.toInt64) r_53 hc_53) (cwV 1 htc (rk_gV w_4_67 w_4_69 ws_37 w_1_7 w_4_70) rfl rfl rfl (by decide +kernel) ⟨(Nat.le_of_ble_eq_true rfl), (Nat.le_of_ble_eq_true rfl)⟩) (rk_preV (va_recv hV.1 hR (ci := 9) (q0 := 0) rfl rfl) (rk_preS hP hD hS hR hn hPL hnl hV [2, 1, 3, 4] [(false, 0), (false, 1), (false, 2), (false, 3), (false, 5), (false, 6)] rfl (by decide) rfl (by decide))) rfl rfl hl.1 rfl (lv_room (Nat.le_of_ble_eq_true rfl)) dX10_step_53 ⟨(Nat.le_of_ble_eq_true rfl), (Nat.le_of_ble_eq_true rfl)⟩) hP hD hS hA hR0 hn [2, 1, 3, 4] [0] rfl rfl (by decide) (by decide) (fun H locs hP hD hS hR => ?_)
        have hP : va_P D vwCl [(a_this_buffer, .inl (cI, 60, .inl c_this_buffer)), (a_this_left, .inl (cI, 4, .inl r_53.1)), (a_this_made, .inl (cI, 60, .inl r_53.2.1)), (a_this_stackLong, .inl (cJ, 64, .inr (.inl r_53.2.2.1))), (a_this_stackOne, .inl (cI, 64, .inl r_53.2.2.2))] H := hP
        have hD : va_D A [(a_this_buffer, .inl (cI, 60, .inl c_this_buffer)), (a_this_left, .inl (cI, 4, .inl r_53.1)), (a_this_made, .inl (cI, 60, .inl r_53.2.1)), (a_this_stackLong, .inl (cJ, 64, .inr (.inl r_53.2.2.1))), (a_this_stackOne, .inl (cI, 64, .inl r_53.2.2.2))] := hD
        refine lv_aload_n hx hb dX10_step_56 rfl (lv_at hl 1 rfl) ?_
        obtain ⟨r_57, hc_57, h⟩ := rk_bd h
        refine rk_i (wr := [(a_this_left, .inl (cI, 4, .inl r_53.1)), (a_this_made, .inl (cI, 60, .inl r_53.2.1)), (a_this_stackLong, .inl (cJ, 64, .inr (.inl r_53.2.2.1))), (a_this_stackOne, .inl (cI, 64, .inl r_53.2.2.2))]) (va_runV (C := RX10) (As := []) (rest := []) hF (mtX10_stores l D cI cJ cO PL _ a_this a_this_chosen a_this_factorial a_this_catalan a_this_parted a_this_closed f_this_now a_this_of a_this_buffer a_this_made a_this_stackOne a_this_stackOther a_this_stackLong a_this_left f_this_entryMany a_this_entryFamily a_this_entryOf a_this_entryRank c_this_buffer r_53.2.1 c_this_of r_57 hc_57) (cwV 0 htc (rk_gV w_4_123 w_4_125 ws_51 w_1_7 w_4_126) rfl rfl rfl (by decide +kernel) ⟨(Nat.le_of_ble_eq_true rfl), (Nat.le_of_ble_eq_true rfl)⟩) (rk_preV (va_recv hV.1 hR (ci := 9) (q0 := 0) rfl rfl) (rk_preS hP hD hS hR hn hPL hnl hV [0] [(false, 0), (true, 2), (false, 5)] rfl (by decide) rfl (by decide))) rfl rfl hl.1 rfl (lv_room (Nat.le_of_ble_eq_true rfl)) dX10_step_57 ⟨(Nat.le_of_ble_eq_true rfl), (Nat.le_of_ble_eq_true rfl)⟩) hP hD hS hA hR0 hn [0] [1, 2, 3, 4] rfl rfl (by decide) (by decide) (fun H locs hP hD hS hR => ?_)
        have hP : va_P D vwCl [(a_this_left, .inl (cI, 4, .inl r_53.1)), (a_this_made, .inl (cI, 60, .inl r_53.2.1)), (a_this_stackLong, .inl (cJ, 64, .inr (.inl r_53.2.2.1))), (a_this_stackOne, .inl (cI, 64, .inl r_53.2.2.2)), (a_this_buffer, .inl (cI, 60, .inl r_57.2))] H := hP
        have hD : va_D A [(a_this_left, .inl (cI, 4, .inl r_53.1)), (a_this_made, .inl (cI, 60, .inl r_53.2.1)), (a_this_stackLong, .inl (cJ, 64, .inr (.inl r_53.2.2.1))), (a_this_stackOne, .inl (cI, 64, .inl r_53.2.2.2)), (a_this_buffer, .inl (cI, 60, .inl r_57.2))] := hD
        refine lv_pop hx hb dX10_step_60 rfl ?_
        refine lv_iconst (v := 1) hx hb dX10_step_61 (by decide) ?_
        exact hret ((1 : Int32), r_57.2, r_53.1, r_53.2.1, r_53.2.2.1, r_53.2.2.2) _ _ _ _ h dX10_step_62 (hP.sub [4, 0, 1, 2, 3] rfl) (hD.sub [4, 0, 1, 2, 3] (by decide) rfl) hS
      · have h := rk_nnif hc3 h
        refine lv_bipush (v := (-6)) hx hb dX10_step_48 (by decide) ?_
        exact hret ((-6 : Int32), c_this_buffer, r_27.2.1, c_this_made, r_27.2.2.1, r_27.2.2.2) _ _ _ _ h dX10_step_50 (hP.sub [0, 2, 1, 3, 4] rfl) (hD.sub [0, 2, 1, 3, 4] (by decide) rfl) hS
    · have h := rk_nnif hc2 h
      refine lv_bipush (v := (-2)) hx hb dX10_step_23 (by decide) ?_
      exact hret ((-2 : Int32), c_this_buffer, c_this_left, c_this_made, c_this_stackLong, r_17.2) _ _ _ _ h dX10_step_25 hP hD hS
  · have h := rk_nnif hc1 h
    refine lv_iconst (v := (-1)) hx hb dX10_step_14 (by decide) ?_
    exact hret ((-1 : Int32), c_this_buffer, c_this_left, c_this_made, c_this_stackLong, c_this_stackOne) _ _ _ _ h dX10_step_15 hP hD hS
