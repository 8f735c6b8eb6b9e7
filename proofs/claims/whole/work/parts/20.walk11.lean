set_option maxHeartbeats 4000000 in
set_option maxRecDepth 100000 in
theorem mtX10_entryCount (l : Launch) (D : va_G) (cI cJ cO : ClassId) (PL : va_W) (sz : Nat) (a_this : Nat) (a_this_chosen : Nat) (a_this_factorial : Nat) (a_this_catalan : Nat) (a_this_parted : Nat) (a_this_closed : Nat) (f_this_now : Int32) (a_this_of : Nat) (a_this_buffer : Nat) (a_this_made : Nat) (a_this_stackOne : Nat) (a_this_stackOther : Nat) (a_this_stackLong : Nat) (a_this_left : Nat) (f_this_entryMany : Int32) (a_this_entryFamily : Nat) (a_this_entryOf : Nat) (a_this_entryRank : Nat) (c_this_catalan : Nat → Int64) (c_this_chosen : Nat → Int64) (c_this_closed : Nat → Int64) (c_this_entryFamily : Nat → Int32) (c_this_entryOf : Nat → Int32) (c_this_factorial : Nat → Int64) (c_this_parted : Nat → Int64) (v_p1 : Int32) (r0 : Int64) (h : fX10_entryCount c_this_catalan c_this_chosen c_this_closed c_this_entryFamily c_this_entryOf c_this_factorial c_this_parted v_p1 = some r0) : Met l yX10_entryCount (rk_w yX10_entryCount cX10_entryCount 2 (some .long)) rmX10_entryCount (va_Pc [.ref a_this, .int v_p1] (rk_B D (rk_TY cI cJ cO) [] [(a_this, .inr (9, [.ref a_this_chosen, .ref a_this_factorial, .ref a_this_catalan, .ref a_this_parted, .ref a_this_closed, .int f_this_now, .ref a_this_of, .ref a_this_buffer, .ref a_this_made, .ref a_this_stackOne, .ref a_this_stackOther, .ref a_this_stackLong, .ref a_this_left, .int f_this_entryMany, .ref a_this_entryFamily, .ref a_this_entryOf, .ref a_this_entryRank])), (a_this_catalan, .inl (cJ, 31, .inr (.inl c_this_catalan))), (a_this_chosen, .inl (cJ, 3721, .inr (.inl c_this_chosen))), (a_this_closed, .inl (cJ, 1722, .inr (.inl c_this_closed))), (a_this_entryFamily, .inl (cI, 10, .inl c_this_entryFamily)), (a_this_entryOf, .inl (cI, 40, .inl c_this_entryOf)), (a_this_factorial, .inl (cJ, 21, .inr (.inl c_this_factorial))), (a_this_parted, .inl (cJ, 3721, .inr (.inl c_this_parted)))] PL sz)) (rk_Ql r0 D [] [] sz) 0 0 (va_A [] sz) := by
  refine rk_metl h (fun x : Int64 => x) (fun x => []) (by decide) (Nat.le_of_ble_eq_true rfl) ?_
  intro p e s m args below meth c A ls Q hret hname hF hP hD hA hV hR0 hn hPL hnl hl h hS
  have hx := hF.1
  have hb := hF.2.1
  have hml := hF.2.2.1
  have hown : s.vm.findClass RX10 = some m.cls := hF.2.2.2.1
  have htc := hF.2.2.2.2
  have hP : va_P D vwCl [] s.heap := hP
  have hD : va_D A [] := hD
  have hR0 : va_P D vwCl [(a_this, .inr (9, [.ref a_this_chosen, .ref a_this_factorial, .ref a_this_catalan, .ref a_this_parted, .ref a_this_closed, .int f_this_now, .ref a_this_of, .ref a_this_buffer, .ref a_this_made, .ref a_this_stackOne, .ref a_this_stackOther, .ref a_this_stackLong, .ref a_this_left, .int f_this_entryMany, .ref a_this_entryFamily, .ref a_this_entryOf, .ref a_this_entryRank])), (a_this_catalan, .inl (cJ, 31, .inr (.inl c_this_catalan))), (a_this_chosen, .inl (cJ, 3721, .inr (.inl c_this_chosen))), (a_this_closed, .inl (cJ, 1722, .inr (.inl c_this_closed))), (a_this_entryFamily, .inl (cI, 10, .inl c_this_entryFamily)), (a_this_entryOf, .inl (cI, 40, .inl c_this_entryOf)), (a_this_factorial, .inl (cJ, 21, .inr (.inl c_this_factorial))), (a_this_parted, .inl (cJ, 3721, .inr (.inl c_this_parted)))] s.heap := hR0
  have hR := hR0
  have hl : lv_has ls 2 [(0, .ref a_this), (1, .int v_p1)] := hl
  unfold fX10_entryCount at h
  refine lv_aload_n hx hb dX10_entryCount_0 rfl (lv_at hl 0 rfl) ?_
  refine lv_aload_n hx hb dX10_entryCount_1 rfl (lv_at hl 0 rfl) ?_
  refine va_get (D := D) (ci := 9) (v := .ref a_this_entryFamily) (C := RX10) (T := TX10) (N := 17) hx hb htc inX10 hown hV.1 hR 0 rfl rfl 14 (by decide) (htc _ w_4_12) (fun _ h9 => h9) rfl dX10_entryCount_2 ?_
  refine lv_iload_n hx hb dX10_entryCount_5 rfl (lv_at hl 1 rfl) ?_
  obtain ⟨hg1, h⟩ := rk_gd h
  refine va_iald hx hb hV.1 hR 4 0 rfl rfl hg1 dX10_entryCount_6 ?_
  refine lv_aload_n hx hb dX10_entryCount_7 rfl (lv_at hl 0 rfl) ?_
  refine va_get (D := D) (ci := 9) (v := .ref a_this_entryOf) (C := RX10) (T := TX10) (N := 17) hx hb htc inX10 hown hV.1 hR 0 rfl rfl 15 (by decide) (htc _ w_4_13) (fun _ h9 => h9) rfl dX10_entryCount_8 ?_
  refine lv_iconst (v := 4) hx hb dX10_entryCount_11 (by decide) ?_
  refine lv_iload_n hx hb dX10_entryCount_12 rfl (lv_at hl 1 rfl) ?_
  refine lv_imul hx hb dX10_entryCount_13 ?_
  obtain ⟨hg2, h⟩ := rk_gd h
  refine va_iald hx hb hV.1 hR 5 0 rfl rfl hg2 dX10_entryCount_14 ?_
  refine lv_aload_n hx hb dX10_entryCount_15 rfl (lv_at hl 0 rfl) ?_
  refine va_get (D := D) (ci := 9) (v := .ref a_this_entryOf) (C := RX10) (T := TX10) (N := 17) hx hb htc inX10 hown hV.1 hR 0 rfl rfl 15 (by decide) (htc _ w_4_13) (fun _ h9 => h9) rfl dX10_entryCount_16 ?_
  refine lv_iconst (v := 4) hx hb dX10_entryCount_19 (by decide) ?_
  refine lv_iload_n hx hb dX10_entryCount_20 rfl (lv_at hl 1 rfl) ?_
  refine lv_imul hx hb dX10_entryCount_21 ?_
  refine lv_iconst (v := 1) hx hb dX10_entryCount_22 (by decide) ?_
  refine lv_iadd hx hb dX10_entryCount_23 ?_
  obtain ⟨hg3, h⟩ := rk_gd h
  refine va_iald hx hb hV.1 hR 5 0 rfl rfl hg3 dX10_entryCount_24 ?_
  refine lv_aload_n hx hb dX10_entryCount_25 rfl (lv_at hl 0 rfl) ?_
  refine va_get (D := D) (ci := 9) (v := .ref a_this_entryOf) (C := RX10) (T := TX10) (N := 17) hx hb htc inX10 hown hV.1 hR 0 rfl rfl 15 (by decide) (htc _ w_4_13) (fun _ h9 => h9) rfl dX10_entryCount_26 ?_
  refine lv_iconst (v := 4) hx hb dX10_entryCount_29 (by decide) ?_
  refine lv_iload_n hx hb dX10_entryCount_30 rfl (lv_at hl 1 rfl) ?_
  refine lv_imul hx hb dX10_entryCount_31 ?_
  refine lv_iconst (v := 2) hx hb dX10_entryCount_32 (by decide) ?_
  refine lv_iadd hx hb dX10_entryCount_33 ?_
  obtain ⟨hg4, h⟩ := rk_gd h
  refine va_iald hx hb hV.1 hR 5 0 rfl rfl hg4 dX10_entryCount_34 ?_
  refine lv_aload_n hx hb dX10_entryCount_35 rfl (lv_at hl 0 rfl) ?_
  refine va_get (D := D) (ci := 9) (v := .ref a_this_entryOf) (C := RX10) (T := TX10) (N := 17) hx hb htc inX10 hown hV.1 hR 0 rfl rfl 15 (by decide) (htc _ w_4_13) (fun _ h9 => h9) rfl dX10_entryCount_36 ?_
  refine lv_iconst (v := 4) hx hb dX10_entryCount_39 (by decide) ?_
  refine lv_iload_n hx hb dX10_entryCount_40 rfl (lv_at hl 1 rfl) ?_
  refine lv_imul hx hb dX10_entryCount_41 ?_
  refine lv_iconst (v := 3) hx hb dX10_entryCount_42 (by decide) ?_
  refine lv_iadd hx hb dX10_entryCount_43 ?_
  obtain ⟨hg5, h⟩ := rk_gd h
  refine va_iald hx hb hV.1 hR 5 0 rfl rfl hg5 dX10_entryCount_44 ?_
  obtain ⟨r_45, hc_45, h⟩ := rk_bd h
  refine rk_l (wr := []) (va_runV (C := RX10) (As := [.int (c_this_entryFamily v_p1.toNatClampNeg), .int (c_this_entryOf ((4 : Int32) * v_p1).toNatClampNeg), .int (c_this_entryOf (((4 : Int32) * v_p1) + (1 : Int32)).toNatClampNeg), .int (c_this_entryOf (((4 : Int32) * v_p1) + (2 : Int32)).toNatClampNeg), .int (c_this_entryOf (((4 : Int32) * v_p1) + (3 : Int32)).toNatClampNeg)]) (rest := []) hF (mtX10_countOf l D cI cJ cO PL _ a_this a_this_chosen a_this_factorial a_this_catalan a_this_parted a_this_closed f_this_now a_this_of a_this_buffer a_this_made a_this_stackOne a_this_stackOther a_this_stackLong a_this_left f_this_entryMany a_this_entryFamily a_this_entryOf a_this_entryRank c_this_catalan c_this_chosen c_this_closed c_this_factorial c_this_parted (c_this_entryFamily v_p1.toNatClampNeg) (c_this_entryOf ((4 : Int32) * v_p1).toNatClampNeg) (c_this_entryOf (((4 : Int32) * v_p1) + (1 : Int32)).toNatClampNeg) (c_this_entryOf (((4 : Int32) * v_p1) + (2 : Int32)).toNatClampNeg) (c_this_entryOf (((4 : Int32) * v_p1) + (3 : Int32)).toNatClampNeg) r_45 hc_45) (cwV 5 htc (rk_gV w_4_170 w_4_172 ws_53 w_1_7 w_4_173) rfl rfl rfl (by decide +kernel) ⟨(Nat.le_of_ble_eq_true rfl), (Nat.le_of_ble_eq_true rfl)⟩) (rk_preV (va_recv hV.1 hR (ci := 9) (q0 := 0) rfl rfl) (rk_preS hP hD hS hR hn hPL hnl hV [] [(false, 0), (false, 1), (false, 2), (false, 3), (false, 6), (false, 7)] rfl (by decide) rfl (by decide))) rfl rfl hl.1 rfl (lv_room (Nat.le_of_ble_eq_true rfl)) dX10_entryCount_45 ⟨(Nat.le_of_ble_eq_true rfl), (Nat.le_of_ble_eq_true rfl)⟩) hP hD hS hA hR0 hn [] [] rfl rfl (by decide) (by decide) (fun H locs hP hD hS hR => ?_)
  have hP : va_P D vwCl [] H := hP
  have hD : va_D A [] := hD
  exact hret r_45 _ _ _ _ h dX10_entryCount_48 hP hD hS
set_option maxHeartbeats 4000000 in
set_option maxRecDepth 100000 in
theorem mtX10_totalNow (l : Launch) (D : va_G) (cI cJ cO : ClassId) (PL : va_W) (sz : Nat) (a_this : Nat) (a_this_chosen : Nat) (a_this_factorial : Nat) (a_this_catalan : Nat) (a_this_parted : Nat) (a_this_closed : Nat) (f_this_now : Int32) (a_this_of : Nat) (a_this_buffer : Nat) (a_this_made : Nat) (a_this_stackOne : Nat) (a_this_stackOther : Nat) (a_this_stackLong : Nat) (a_this_left : Nat) (f_this_entryMany : Int32) (a_this_entryFamily : Nat) (a_this_entryOf : Nat) (a_this_entryRank : Nat) (c_this_catalan : Nat → Int64) (c_this_chosen : Nat → Int64) (c_this_closed : Nat → Int64) (c_this_entryFamily : Nat → Int32) (c_this_entryOf : Nat → Int32) (c_this_factorial : Nat → Int64) (c_this_parted : Nat → Int64) (r0 : Int64) (h : fX10_totalNow f_this_entryMany c_this_catalan c_this_chosen c_this_closed c_this_entryFamily c_this_entryOf c_this_factorial c_this_parted = some r0) : Met l yX10_totalNow (rk_w yX10_totalNow cX10_totalNow 4 (some .long)) rmX10_totalNow (va_Pc [.ref a_this] (rk_B D (rk_TY cI cJ cO) [] [(a_this, .inr (9, [.ref a_this_chosen, .ref a_this_factorial, .ref a_this_catalan, .ref a_this_parted, .ref a_this_closed, .int f_this_now, .ref a_this_of, .ref a_this_buffer, .ref a_this_made, .ref a_this_stackOne, .ref a_this_stackOther, .ref a_this_stackLong, .ref a_this_left, .int f_this_entryMany, .ref a_this_entryFamily, .ref a_this_entryOf, .ref a_this_entryRank])), (a_this_catalan, .inl (cJ, 31, .inr (.inl c_this_catalan))), (a_this_chosen, .inl (cJ, 3721, .inr (.inl c_this_chosen))), (a_this_closed, .inl (cJ, 1722, .inr (.inl c_this_closed))), (a_this_entryFamily, .inl (cI, 10, .inl c_this_entryFamily)), (a_this_entryOf, .inl (cI, 40, .inl c_this_entryOf)), (a_this_factorial, .inl (cJ, 21, .inr (.inl c_this_factorial))), (a_this_parted, .inl (cJ, 3721, .inr (.inl c_this_parted)))] PL sz)) (rk_Ql r0 D [] [] sz) 0 0 (va_A [] sz) := by
  refine rk_metl h (fun x : Int64 => x) (fun x => []) (by decide) (Nat.le_of_ble_eq_true rfl) ?_
  intro p e s m args below meth c A ls Q hret hname hF hP hD hA hV hR0 hn hPL hnl hl h hS
  have hx := hF.1
  have hb := hF.2.1
  have hml := hF.2.2.1
  have hown : s.vm.findClass RX10 = some m.cls := hF.2.2.2.1
  have htc := hF.2.2.2.2
  have hP : va_P D vwCl [] s.heap := hP
  have hD : va_D A [] := hD
  have hR0 : va_P D vwCl [(a_this, .inr (9, [.ref a_this_chosen, .ref a_this_factorial, .ref a_this_catalan, .ref a_this_parted, .ref a_this_closed, .int f_this_now, .ref a_this_of, .ref a_this_buffer, .ref a_this_made, .ref a_this_stackOne, .ref a_this_stackOther, .ref a_this_stackLong, .ref a_this_left, .int f_this_entryMany, .ref a_this_entryFamily, .ref a_this_entryOf, .ref a_this_entryRank])), (a_this_catalan, .inl (cJ, 31, .inr (.inl c_this_catalan))), (a_this_chosen, .inl (cJ, 3721, .inr (.inl c_this_chosen))), (a_this_closed, .inl (cJ, 1722, .inr (.inl c_this_closed))), (a_this_entryFamily, .inl (cI, 10, .inl c_this_entryFamily)), (a_this_entryOf, .inl (cI, 40, .inl c_this_entryOf)), (a_this_factorial, .inl (cJ, 21, .inr (.inl c_this_factorial))), (a_this_parted, .inl (cJ, 3721, .inr (.inl c_this_parted)))] s.heap := hR0
  have hR := hR0
  have hl : lv_has ls 4 [(0, .ref a_this)] := hl
  unfold fX10_totalNow at h
  refine lv_lconst (v := 1) hx hb dX10_totalNow_0 (by decide) ?_
  refine lv_lstore_n (lv' := [(1, .long (1 : Int64)), (0, .ref a_this)]) hx hb dX10_totalNow_1 rfl hl (by decide) rfl (fun ls hl => ?_)
  refine lv_iconst (v := 0) hx hb dX10_totalNow_2 (by decide) ?_
  refine lv_istore_n (lv' := [(3, .int (0 : Int32)), (1, .long (1 : Int64)), (0, .ref a_this)]) hx hb dX10_totalNow_3 rfl hl (by decide) rfl (fun ls hl => ?_)
  have L4 : ∀ (n4 : Nat) (b4_l1 : Int64) (b4_l3 : Int32), rk_it2 (fX10_totalNow_L4 f_this_entryMany c_this_catalan c_this_chosen c_this_closed c_this_entryFamily c_this_entryOf c_this_factorial c_this_parted) n4 b4_l1 b4_l3 = some r0 → ∀ (H : Heap) (locs : List Loc), va_P D vwCl [] H → va_D A [] → va_S A s.heap H locs → ∀ (ls : Array Slot), lv_has ls 4 [(0, .ref a_this), (1, .long b4_l1), (3, .int b4_l3)] → W p l e rmX10_totalNow s m args below meth c H locs 0 0 Q (F0 m 4 ls []) := by
    intro n4
    induction n4 with
    | zero => intro b4_l1 b4_l3 h; exact rk_no h
    | succ n4 ih4 =>
      intro b4_l1 b4_l3 h H locs hP hD hS ls hl
      have h : fX10_totalNow_L4 f_this_entryMany c_this_catalan c_this_chosen c_this_closed c_this_entryFamily c_this_entryOf c_this_factorial c_this_parted (rk_it2 (fX10_totalNow_L4 f_this_entryMany c_this_catalan c_this_chosen c_this_closed c_this_entryFamily c_this_entryOf c_this_factorial c_this_parted) n4) b4_l1 b4_l3 = some r0 := h
      unfold fX10_totalNow_L4 at h
      have hR := rk_keep hR0 hn hS
      refine lv_iload_n hx hb dX10_totalNow_4 rfl (lv_at hl 2 rfl) ?_
      refine lv_aload_n hx hb dX10_totalNow_5 rfl (lv_at hl 0 rfl) ?_
      refine va_get (D := D) (ci := 9) (v := .int f_this_entryMany) (C := RX10) (T := TX10) (N := 17) hx hb htc inX10 hown hV.1 hR 0 rfl rfl 13 (by decide) (htc _ w_4_11) (fun _ h9 => h9) rfl dX10_totalNow_6 ?_
      refine lv_icmp_ge (tgt := 26) hx hb dX10_totalNow_9 (by decide) (fun hc1 => ?_) (fun hc1 => ?_)
      · have h := rk_if hc1 h
        refine lv_lload_n hx hb dX10_totalNow_26 rfl (lv_at hl 1 rfl) ?_
        exact hret b4_l1 _ _ _ _ h dX10_totalNow_27 hP hD hS
      · have h := rk_nif hc1 h
        refine lv_lload_n hx hb dX10_totalNow_12 rfl (lv_at hl 1 rfl) ?_
        refine lv_aload_n hx hb dX10_totalNow_13 rfl (lv_at hl 0 rfl) ?_
        refine lv_iload_n hx hb dX10_totalNow_14 rfl (lv_at hl 2 rfl) ?_
        obtain ⟨r_15, hc_15, h⟩ := rk_bd h
        refine rk_l (wr := []) (va_runV (C := RX10) (As := [.int b4_l3]) (rest := [.long b4_l1]) hF (mtX10_entryCount l D cI cJ cO PL _ a_this a_this_chosen a_this_factorial a_this_catalan a_this_parted a_this_closed f_this_now a_this_of a_this_buffer a_this_made a_this_stackOne a_this_stackOther a_this_stackLong a_this_left f_this_entryMany a_this_entryFamily a_this_entryOf a_this_entryRank c_this_catalan c_this_chosen c_this_closed c_this_entryFamily c_this_entryOf c_this_factorial c_this_parted b4_l3 r_15 hc_15) (cwV 1 htc (rk_gV w_5_87 w_5_89 ws_78 w_1_7 w_5_90) rfl rfl rfl (by decide +kernel) ⟨(Nat.le_of_ble_eq_true rfl), (Nat.le_of_ble_eq_true rfl)⟩) (rk_preV (va_recv hV.1 hR (ci := 9) (q0 := 0) rfl rfl) (rk_preS hP hD hS hR hn hPL hnl hV [] [(false, 0), (false, 1), (false, 2), (false, 3), (false, 4), (false, 5), (false, 6), (false, 7)] rfl (by decide) rfl (by decide))) rfl rfl hl.1 rfl (lv_room (Nat.le_of_ble_eq_true rfl)) dX10_totalNow_15 ⟨(Nat.le_of_ble_eq_true rfl), (Nat.le_of_ble_eq_true rfl)⟩) hP hD hS hA hR0 hn [] [] rfl rfl (by decide) (by decide) (fun H locs hP hD hS hR => ?_)
        have hP : va_P D vwCl [] H := hP
        have hD : va_D A [] := hD
        refine lv_lmul hx hb dX10_totalNow_18 ?_
        refine lv_lstore_n (lv' := [(1, .long (b4_l1 * r_15)), (0, .ref a_this), (3, .int b4_l3)]) hx hb dX10_totalNow_19 rfl hl (by decide) rfl (fun ls hl => ?_)
        refine lv_iinc (v := (b4_l3 + 1)) (lv' := [(3, .int (b4_l3 + 1)), (1, .long (b4_l1 * r_15)), (0, .ref a_this)]) hx hb dX10_totalNow_20 hl (k := 2) rfl rfl (by decide) rfl (fun ls hl => ?_)
        refine lv_goto (tgt := 4) hx hb dX10_totalNow_23 (by decide) ?_
        exact ih4 (b4_l1 * r_15) (b4_l3 + 1) h _ _ hP hD hS _ (lv_sub hl [2, 1, 0] rfl)
  exact L4 FU (1 : Int64) (0 : Int32) h _ _ hP hD hS _ (lv_sub hl [2, 1, 0] rfl)
set_option maxHeartbeats 4000000 in
set_option maxRecDepth 100000 in
theorem mtX10_store (l : Launch) (D : va_G) (cI cJ cO : ClassId) (PL : va_W) (sz : Nat) (a_this : Nat) (a_this_chosen : Nat) (a_this_factorial : Nat) (a_this_catalan : Nat) (a_this_parted : Nat) (a_this_closed : Nat) (f_this_now : Int32) (a_this_of : Nat) (a_this_buffer : Nat) (a_this_made : Nat) (a_this_stackOne : Nat) (a_this_stackOther : Nat) (a_this_stackLong : Nat) (a_this_left : Nat) (f_this_entryMany : Int32) (a_this_entryFamily : Nat) (a_this_entryOf : Nat) (a_this_entryRank : Nat) (c_this_entryFamily : Nat → Int32) (c_this_entryOf : Nat → Int32) (c_this_entryRank : Nat → Int64) (c_this_left : Nat → Int32) (c_this_stackLong : Nat → Int64) (c_this_stackOne : Nat → Int32) (c_this_buffer : Nat → Int32) (c_this_catalan : Nat → Int64) (c_this_chosen : Nat → Int64) (c_this_closed : Nat → Int64) (c_this_factorial : Nat → Int64) (c_this_of : Nat → Int32) (c_this_parted : Nat → Int64) (r0 : Int32 × Int32 × (Nat → Int32) × (Nat → Int32) × (Nat → Int64) × (Nat → Int32) × (Nat → Int64) × (Nat → Int32)) (h : fX10_store f_this_now f_this_entryMany c_this_entryFamily c_this_entryOf c_this_entryRank c_this_left c_this_stackLong c_this_stackOne c_this_buffer c_this_catalan c_this_chosen c_this_closed c_this_factorial c_this_of c_this_parted = some r0) : Met l yX10_store (rk_w yX10_store cX10_store 2 (some .int)) rmX10_store (va_Pc [.ref a_this] (rk_B D (rk_TY cI cJ cO) [(a_this, .inr (9, [.ref a_this_chosen, .ref a_this_factorial, .ref a_this_catalan, .ref a_this_parted, .ref a_this_closed, .int f_this_now, .ref a_this_of, .ref a_this_buffer, .ref a_this_made, .ref a_this_stackOne, .ref a_this_stackOther, .ref a_this_stackLong, .ref a_this_left, .int f_this_entryMany, .ref a_this_entryFamily, .ref a_this_entryOf, .ref a_this_entryRank])), (a_this_entryFamily, .inl (cI, 10, .inl c_this_entryFamily)), (a_this_entryOf, .inl (cI, 40, .inl c_this_entryOf)), (a_this_entryRank, .inl (cJ, 10, .inr (.inl c_this_entryRank))), (a_this_left, .inl (cI, 4, .inl c_this_left)), (a_this_stackLong, .inl (cJ, 64, .inr (.inl c_this_stackLong))), (a_this_stackOne, .inl (cI, 64, .inl c_this_stackOne))] [(a_this_buffer, .inl (cI, 60, .inl c_this_buffer)), (a_this_catalan, .inl (cJ, 31, .inr (.inl c_this_catalan))), (a_this_chosen, .inl (cJ, 3721, .inr (.inl c_this_chosen))), (a_this_closed, .inl (cJ, 1722, .inr (.inl c_this_closed))), (a_this_factorial, .inl (cJ, 21, .inr (.inl c_this_factorial))), (a_this_of, .inl (cI, 4, .inl c_this_of)), (a_this_parted, .inl (cJ, 3721, .inr (.inl c_this_parted)))] PL sz)) (rk_Qi r0.1 D [(a_this, .inr (9, [.ref a_this_chosen, .ref a_this_factorial, .ref a_this_catalan, .ref a_this_parted, .ref a_this_closed, .int f_this_now, .ref a_this_of, .ref a_this_buffer, .ref a_this_made, .ref a_this_stackOne, .ref a_this_stackOther, .ref a_this_stackLong, .ref a_this_left, .int r0.2.1, .ref a_this_entryFamily, .ref a_this_entryOf, .ref a_this_entryRank])), (a_this_entryFamily, .inl (cI, 10, .inl r0.2.2.1)), (a_this_entryOf, .inl (cI, 40, .inl r0.2.2.2.1)), (a_this_entryRank, .inl (cJ, 10, .inr (.inl r0.2.2.2.2.1))), (a_this_left, .inl (cI, 4, .inl r0.2.2.2.2.2.1)), (a_this_stackLong, .inl (cJ, 64, .inr (.inl r0.2.2.2.2.2.2.1))), (a_this_stackOne, .inl (cI, 64, .inl r0.2.2.2.2.2.2.2))] [(a_this, .inr (9, [.ref a_this_chosen, .ref a_this_factorial, .ref a_this_catalan, .ref a_this_parted, .ref a_this_closed, .int f_this_now, .ref a_this_of, .ref a_this_buffer, .ref a_this_made, .ref a_this_stackOne, .ref a_this_stackOther, .ref a_this_stackLong, .ref a_this_left, .int f_this_entryMany, .ref a_this_entryFamily, .ref a_this_entryOf, .ref a_this_entryRank])), (a_this_entryFamily, .inl (cI, 10, .inl c_this_entryFamily)), (a_this_entryOf, .inl (cI, 40, .inl c_this_entryOf)), (a_this_entryRank, .inl (cJ, 10, .inr (.inl c_this_entryRank))), (a_this_left, .inl (cI, 4, .inl c_this_left)), (a_this_stackLong, .inl (cJ, 64, .inr (.inl c_this_stackLong))), (a_this_stackOne, .inl (cI, 64, .inl c_this_stackOne))] sz) 0 0 (va_A [(a_this, .inr (9, [.ref a_this_chosen, .ref a_this_factorial, .ref a_this_catalan, .ref a_this_parted, .ref a_this_closed, .int f_this_now, .ref a_this_of, .ref a_this_buffer, .ref a_this_made, .ref a_this_stackOne, .ref a_this_stackOther, .ref a_this_stackLong, .ref a_this_left, .int f_this_entryMany, .ref a_this_entryFamily, .ref a_this_entryOf, .ref a_this_entryRank])), (a_this_entryFamily, .inl (cI, 10, .inl c_this_entryFamily)), (a_this_entryOf, .inl (cI, 40, .inl c_this_entryOf)), (a_this_entryRank, .inl (cJ, 10, .inr (.inl c_this_entryRank))), (a_this_left, .inl (cI, 4, .inl c_this_left)), (a_this_stackLong, .inl (cJ, 64, .inr (.inl c_this_stackLong))), (a_this_stackOne, .inl (cI, 64, .inl c_this_stackOne))] sz) := by
  refine rk_meti h (fun x : Int32 × Int32 × (Nat → Int32) × (Nat → Int32) × (Nat → Int64) × (Nat → Int32) × (Nat → Int64) × (Nat → Int32) => x.1) (fun x => [(a_this, .inr (9, [.ref a_this_chosen, .ref a_this_factorial, .ref a_this_catalan, .ref a_this_parted, .ref a_this_closed, .int f_this_now, .ref a_this_of, .ref a_this_buffer, .ref a_this_made, .ref a_this_stackOne, .ref a_this_stackOther, .ref a_this_stackLong, .ref a_this_left, .int x.2.1, .ref a_this_entryFamily, .ref a_this_entryOf, .ref a_this_entryRank])), (a_this_entryFamily, .inl (cI, 10, .inl x.2.2.1)), (a_this_entryOf, .inl (cI, 40, .inl x.2.2.2.1)), (a_this_entryRank, .inl (cJ, 10, .inr (.inl x.2.2.2.2.1))), (a_this_left, .inl (cI, 4, .inl x.2.2.2.2.2.1)), (a_this_stackLong, .inl (cJ, 64, .inr (.inl x.2.2.2.2.2.2.1))), (a_this_stackOne, .inl (cI, 64, .inl x.2.2.2.2.2.2.2))]) (by decide) (Nat.le_of_ble_eq_true rfl) ?_
  intro p e s m args below meth c A ls Q hret hname hF hP hD hA hV hR0 hn hPL hnl hl h hS
  have hx := hF.1
  have hb := hF.2.1
  have hml := hF.2.2.1
  have hown : s.vm.findClass RX10 = some m.cls := hF.2.2.2.1
  have htc := hF.2.2.2.2
  have hP : va_P D vwCl [(a_this, .inr (9, [.ref a_this_chosen, .ref a_this_factorial, .ref a_this_catalan, .ref a_this_parted, .ref a_this_closed, .int f_this_now, .ref a_this_of, .ref a_this_buffer, .ref a_this_made, .ref a_this_stackOne, .ref a_this_stackOther, .ref a_this_stackLong, .ref a_this_left, .int f_this_entryMany, .ref a_this_entryFamily, .ref a_this_entryOf, .ref a_this_entryRank])), (a_this_entryFamily, .inl (cI, 10, .inl c_this_entryFamily)), (a_this_entryOf, .inl (cI, 40, .inl c_this_entryOf)), (a_this_entryRank, .inl (cJ, 10, .inr (.inl c_this_entryRank))), (a_this_left, .inl (cI, 4, .inl c_this_left)), (a_this_stackLong, .inl (cJ, 64, .inr (.inl c_this_stackLong))), (a_this_stackOne, .inl (cI, 64, .inl c_this_stackOne))] s.heap := hP
  have hD : va_D A [(a_this, .inr (9, [.ref a_this_chosen, .ref a_this_factorial, .ref a_this_catalan, .ref a_this_parted, .ref a_this_closed, .int f_this_now, .ref a_this_of, .ref a_this_buffer, .ref a_this_made, .ref a_this_stackOne, .ref a_this_stackOther, .ref a_this_stackLong, .ref a_this_left, .int f_this_entryMany, .ref a_this_entryFamily, .ref a_this_entryOf, .ref a_this_entryRank])), (a_this_entryFamily, .inl (cI, 10, .inl c_this_entryFamily)), (a_this_entryOf, .inl (cI, 40, .inl c_this_entryOf)), (a_this_entryRank, .inl (cJ, 10, .inr (.inl c_this_entryRank))), (a_this_left, .inl (cI, 4, .inl c_this_left)), (a_this_stackLong, .inl (cJ, 64, .inr (.inl c_this_stackLong))), (a_this_stackOne, .inl (cI, 64, .inl c_this_stackOne))] := hD
  have hR0 : va_P D vwCl [(a_this_buffer, .inl (cI, 60, .inl c_this_buffer)), (a_this_catalan, .inl (cJ, 31, .inr (.inl c_this_catalan))), (a_this_chosen, .inl (cJ, 3721, .inr (.inl c_this_chosen))), (a_this_closed, .inl (cJ, 1722, .inr (.inl c_this_closed))), (a_this_factorial, .inl (cJ, 21, .inr (.inl c_this_factorial))), (a_this_of, .inl (cI, 4, .inl c_this_of)), (a_this_parted, .inl (cJ, 3721, .inr (.inl c_this_parted)))] s.heap := hR0
  have hR := hR0
  have hl : lv_has ls 2 [(0, .ref a_this)] := hl
  unfold fX10_store at h
  refine lv_aload_n hx hb dX10_store_0 rfl (lv_at hl 0 rfl) ?_
  obtain ⟨r_1, hc_1, h⟩ := rk_bd h
  refine rk_i (wr := [(a_this, .inr (9, [.ref a_this_chosen, .ref a_this_factorial, .ref a_this_catalan, .ref a_this_parted, .ref a_this_closed, .int f_this_now, .ref a_this_of, .ref a_this_buffer, .ref a_this_made, .ref a_this_stackOne, .ref a_this_stackOther, .ref a_this_stackLong, .ref a_this_left, .int f_this_entryMany, .ref a_this_entryFamily, .ref a_this_entryOf, .ref a_this_entryRank])), (a_this_entryFamily, .inl (cI, 10, .inl c_this_entryFamily)), (a_this_entryOf, .inl (cI, 40, .inl c_this_entryOf)), (a_this_entryRank, .inl (cJ, 10, .inr (.inl c_this_entryRank))), (a_this_left, .inl (cI, 4, .inl c_this_left)), (a_this_stackLong, .inl (cJ, 64, .inr (.inl c_this_stackLong)))]) (va_runV (C := RX10) (As := []) (rest := []) hF (mtX10_isGood l D cI cJ cO PL _ a_this a_this_chosen a_this_factorial a_this_catalan a_this_parted a_this_closed f_this_now a_this_of a_this_buffer a_this_made a_this_stackOne a_this_stackOther a_this_stackLong a_this_left f_this_entryMany a_this_entryFamily a_this_entryOf a_this_entryRank c_this_stackOne c_this_buffer c_this_of r_1 hc_1) (cwV 0 htc (rk_gV w_4_189 w_4_191 ws_54 w_1_7 w_4_192) rfl rfl rfl (by decide +kernel) ⟨(Nat.le_of_ble_eq_true rfl), (Nat.le_of_ble_eq_true rfl)⟩) (rk_preV (va_recv hV.1 hP (ci := 9) (q0 := 0) rfl rfl) (rk_preS hP hD hS hR hn hPL hnl hV [6] [(true, 0), (false, 0), (false, 5)] rfl (by decide) rfl (by decide))) rfl rfl hl.1 rfl (lv_room (Nat.le_of_ble_eq_true rfl)) dX10_store_1 ⟨(Nat.le_of_ble_eq_true rfl), (Nat.le_of_ble_eq_true rfl)⟩) hP hD hS hA hR0 hn [6] [0, 1, 2, 3, 4, 5] rfl rfl (by decide) (by decide) (fun H locs hP hD hS hR => ?_)
  have hP : va_P D vwCl [(a_this, .inr (9, [.ref a_this_chosen, .ref a_this_factorial, .ref a_this_catalan, .ref a_this_parted, .ref a_this_closed, .int f_this_now, .ref a_this_of, .ref a_this_buffer, .ref a_this_made, .ref a_this_stackOne, .ref a_this_stackOther, .ref a_this_stackLong, .ref a_this_left, .int f_this_entryMany, .ref a_this_entryFamily, .ref a_this_entryOf, .ref a_this_entryRank])), (a_this_entryFamily, .inl (cI, 10, .inl c_this_entryFamily)), (a_this_entryOf, .inl (cI, 40, .inl c_this_entryOf)), (a_this_entryRank, .inl (cJ, 10, .inr (.inl c_this_entryRank))), (a_this_left, .inl (cI, 4, .inl c_this_left)), (a_this_stackLong, .inl (cJ, 64, .inr (.inl c_this_stackLong))), (a_this_stackOne, .inl (cI, 64, .inl r_1.2))] H := hP
  have hD : va_D A [(a_this, .inr (9, [.ref a_this_chosen, .ref a_this_factorial, .ref a_this_catalan, .ref a_this_parted, .ref a_this_closed, .int f_this_now, .ref a_this_of, .ref a_this_buffer, .ref a_this_made, .ref a_this_stackOne, .ref a_this_stackOther, .ref a_this_stackLong, .ref a_this_left, .int f_this_entryMany, .ref a_this_entryFamily, .ref a_this_entryOf, .ref a_this_entryRank])), (a_this_entryFamily, .inl (cI, 10, .inl c_this_entryFamily)), (a_this_entryOf, .inl (cI, 40, .inl c_this_entryOf)), (a_this_entryRank, .inl (cJ, 10, .inr (.inl c_this_entryRank))), (a_this_left, .inl (cI, 4, .inl c_this_left)), (a_this_stackLong, .inl (cJ, 64, .inr (.inl c_this_stackLong))), (a_this_stackOne, .inl (cI, 64, .inl r_1.2))] := hD
  refine lv_if_ne (tgt := 10) hx hb dX10_store_4 (by decide) (fun hc1 => ?_) (fun hc1 => ?_)
  · have h := rk_if hc1 h
    refine lv_aload_n hx hb dX10_store_10 rfl (lv_at hl 0 rfl) ?_
    refine va_get (D := D) (ci := 9) (v := .int f_this_entryMany) (C := RX10) (T := TX10) (N := 17) hx hb htc inX10 hown hV.1 hP 0 rfl rfl 13 (by decide) (htc _ w_4_11) (fun _ h9 => h9) rfl dX10_store_11 ?_
    refine lv_bipush (v := 10) hx hb dX10_store_14 (by decide) ?_
    refine lv_icmp_eq (tgt := 35) hx hb dX10_store_16 (by decide) (fun hc2 => ?_) (fun hc2 => ?_)
    · have h := rk_if hc2 h
      refine lv_bipush (v := (-4)) hx hb dX10_store_35 (by decide) ?_
      exact hret ((-4 : Int32), f_this_entryMany, c_this_entryFamily, c_this_entryOf, c_this_entryRank, c_this_left, c_this_stackLong, r_1.2) _ _ _ _ h dX10_store_37 hP hD hS
    · have h := rk_nif hc2 h
      refine lv_aload_n hx hb dX10_store_19 rfl (lv_at hl 0 rfl) ?_
      obtain ⟨r_20, hc_20, h⟩ := rk_bd h
      refine rk_l (wr := [(a_this, .inr (9, [.ref a_this_chosen, .ref a_this_factorial, .ref a_this_catalan, .ref a_this_parted, .ref a_this_closed, .int f_this_now, .ref a_this_of, .ref a_this_buffer, .ref a_this_made, .ref a_this_stackOne, .ref a_this_stackOther, .ref a_this_stackLong, .ref a_this_left, .int f_this_entryMany, .ref a_this_entryFamily, .ref a_this_entryOf, .ref a_this_entryRank])), (a_this_entryFamily, .inl (cI, 10, .inl c_this_entryFamily)), (a_this_entryOf, .inl (cI, 40, .inl c_this_entryOf)), (a_this_entryRank, .inl (cJ, 10, .inr (.inl c_this_entryRank))), (a_this_left, .inl (cI, 4, .inl c_this_left)), (a_this_stackLong, .inl (cJ, 64, .inr (.inl c_this_stackLong))), (a_this_stackOne, .inl (cI, 64, .inl r_1.2))]) (va_runV (C := RX10) (As := []) (rest := []) hF (mtX10_manyNow l D cI cJ cO PL _ a_this a_this_chosen a_this_factorial a_this_catalan a_this_parted a_this_closed f_this_now a_this_of a_this_buffer a_this_made a_this_stackOne a_this_stackOther a_this_stackLong a_this_left f_this_entryMany a_this_entryFamily a_this_entryOf a_this_entryRank c_this_catalan c_this_chosen c_this_closed c_this_factorial c_this_of c_this_parted r_20 hc_20) (cwV 0 htc (rk_gV w_4_166 w_4_168 ws_52 w_1_7 w_4_169) rfl rfl rfl (by decide +kernel) ⟨(Nat.le_of_ble_eq_true rfl), (Nat.le_of_ble_eq_true rfl)⟩) (rk_preV (va_recv hV.1 hP (ci := 9) (q0 := 0) rfl rfl) (rk_preS hP hD hS hR hn hPL hnl hV [] [(true, 0), (false, 1), (false, 2), (false, 3), (false, 4), (false, 5), (false, 6)] rfl (by decide) rfl (by decide))) rfl rfl hl.1 rfl (lv_room (Nat.le_of_ble_eq_true rfl)) dX10_store_20 ⟨(Nat.le_of_ble_eq_true rfl), (Nat.le_of_ble_eq_true rfl)⟩) hP hD hS hA hR0 hn [] [0, 1, 2, 3, 4, 5, 6] rfl rfl (by decide) (by decide) (fun H locs hP hD hS hR => ?_)
      have hP : va_P D vwCl [(a_this, .inr (9, [.ref a_this_chosen, .ref a_this_factorial, .ref a_this_catalan, .ref a_this_parted, .ref a_this_closed, .int f_this_now, .ref a_this_of, .ref a_this_buffer, .ref a_this_made, .ref a_this_stackOne, .ref a_this_stackOther, .ref a_this_stackLong, .ref a_this_left, .int f_this_entryMany, .ref a_this_entryFamily, .ref a_this_entryOf, .ref a_this_entryRank])), (a_this_entryFamily, .inl (cI, 10, .inl c_this_entryFamily)), (a_this_entryOf, .inl (cI, 40, .inl c_this_entryOf)), (a_this_entryRank, .inl (cJ, 10, .inr (.inl c_this_entryRank))), (a_this_left, .inl (cI, 4, .inl c_this_left)), (a_this_stackLong, .inl (cJ, 64, .inr (.inl c_this_stackLong))), (a_this_stackOne, .inl (cI, 64, .inl r_1.2))] H := hP
      have hD : va_D A [(a_this, .inr (9, [.ref a_this_chosen, .ref a_this_factorial, .ref a_this_catalan, .ref a_this_parted, .ref a_this_closed, .int f_this_now, .ref a_this_of, .ref a_this_buffer, .ref a_this_made, .ref a_this_stackOne, .ref a_this_stackOther, .ref a_this_stackLong, .ref a_this_left, .int f_this_entryMany, .ref a_this_entryFamily, .ref a_this_entryOf, .ref a_this_entryRank])), (a_this_entryFamily, .inl (cI, 10, .inl c_this_entryFamily)), (a_this_entryOf, .inl (cI, 40, .inl c_this_entryOf)), (a_this_entryRank, .inl (cJ, 10, .inr (.inl c_this_entryRank))), (a_this_left, .inl (cI, 4, .inl c_this_left)), (a_this_stackLong, .inl (cJ, 64, .inr (.inl c_this_stackLong))), (a_this_stackOne, .inl (cI, 64, .inl r_1.2))] := hD
      refine lv_ldc2 (v := (4611686018427387904 : Int64)) hx hb hown (htc _ w_5_82) dX10_store_23 ?_
      refine lv_aload_n hx hb dX10_store_26 rfl (lv_at hl 0 rfl) ?_
      obtain ⟨r_27, hc_27, h⟩ := rk_bd h
      refine rk_l (wr := [(a_this, .inr (9, [.ref a_this_chosen, .ref a_this_factorial, .ref a_this_catalan, .ref a_this_parted, .ref a_this_closed, .int f_this_now, .ref a_this_of, .ref a_this_buffer, .ref a_this_made, .ref a_this_stackOne, .ref a_this_stackOther, .ref a_this_stackLong, .ref a_this_left, .int f_this_entryMany, .ref a_this_entryFamily, .ref a_this_entryOf, .ref a_this_entryRank])), (a_this_entryFamily, .inl (cI, 10, .inl c_this_entryFamily)), (a_this_entryOf, .inl (cI, 40, .inl c_this_entryOf)), (a_this_entryRank, .inl (cJ, 10, .inr (.inl c_this_entryRank))), (a_this_left, .inl (cI, 4, .inl c_this_left)), (a_this_stackLong, .inl (cJ, 64, .inr (.inl c_this_stackLong))), (a_this_stackOne, .inl (cI, 64, .inl r_1.2))]) (va_runV (C := RX10) (As := []) (rest := [.long (4611686018427387904 : Int64), .long r_20]) hF (mtX10_totalNow l D cI cJ cO PL _ a_this a_this_chosen a_this_factorial a_this_catalan a_this_parted a_this_closed f_this_now a_this_of a_this_buffer a_this_made a_this_stackOne a_this_stackOther a_this_stackLong a_this_left f_this_entryMany a_this_entryFamily a_this_entryOf a_this_entryRank c_this_catalan c_this_chosen c_this_closed c_this_entryFamily c_this_entryOf c_this_factorial c_this_parted r_27 hc_27) (cwV 0 htc (rk_gV w_5_83 w_5_85 ws_77 w_1_7 w_5_86) rfl rfl rfl (by decide +kernel) ⟨(Nat.le_of_ble_eq_true rfl), (Nat.le_of_ble_eq_true rfl)⟩) (rk_preV (va_recv hV.1 hP (ci := 9) (q0 := 0) rfl rfl) (rk_preS hP hD hS hR hn hPL hnl hV [] [(true, 0), (false, 1), (false, 2), (false, 3), (true, 1), (true, 2), (false, 4), (false, 6)] rfl (by decide) rfl (by decide))) rfl rfl hl.1 rfl (lv_room (Nat.le_of_ble_eq_true rfl)) dX10_store_27 ⟨(Nat.le_of_ble_eq_true rfl), (Nat.le_of_ble_eq_true rfl)⟩) hP hD hS hA hR0 hn [] [0, 1, 2, 3, 4, 5, 6] rfl rfl (by decide) (by decide) (fun H locs hP hD hS hR => ?_)
      have hP : va_P D vwCl [(a_this, .inr (9, [.ref a_this_chosen, .ref a_this_factorial, .ref a_this_catalan, .ref a_this_parted, .ref a_this_closed, .int f_this_now, .ref a_this_of, .ref a_this_buffer, .ref a_this_made, .ref a_this_stackOne, .ref a_this_stackOther, .ref a_this_stackLong, .ref a_this_left, .int f_this_entryMany, .ref a_this_entryFamily, .ref a_this_entryOf, .ref a_this_entryRank])), (a_this_entryFamily, .inl (cI, 10, .inl c_this_entryFamily)), (a_this_entryOf, .inl (cI, 40, .inl c_this_entryOf)), (a_this_entryRank, .inl (cJ, 10, .inr (.inl c_this_entryRank))), (a_this_left, .inl (cI, 4, .inl c_this_left)), (a_this_stackLong, .inl (cJ, 64, .inr (.inl c_this_stackLong))), (a_this_stackOne, .inl (cI, 64, .inl r_1.2))] H := hP
      have hD : va_D A [(a_this, .inr (9, [.ref a_this_chosen, .ref a_this_factorial, .ref a_this_catalan, .ref a_this_parted, .ref a_this_closed, .int f_this_now, .ref a_this_of, .ref a_this_buffer, .ref a_this_made, .ref a_this_stackOne, .ref a_this_stackOther, .ref a_this_stackLong, .ref a_this_left, .int f_this_entryMany, .ref a_this_entryFamily, .ref a_this_entryOf, .ref a_this_entryRank])), (a_this_entryFamily, .inl (cI, 10, .inl c_this_entryFamily)), (a_this_entryOf, .inl (cI, 40, .inl c_this_entryOf)), (a_this_entryRank, .inl (cJ, 10, .inr (.inl c_this_entryRank))), (a_this_left, .inl (cI, 4, .inl c_this_left)), (a_this_stackLong, .inl (cJ, 64, .inr (.inl c_this_stackLong))), (a_this_stackOne, .inl (cI, 64, .inl r_1.2))] := hD
      obtain ⟨hz3, h⟩ := rk_gd h
      refine lv_ldiv hx hb dX10_store_30 hz3 ?_
      refine rk_lcle (tgt := 38) hx hb dX10_store_31 dX10_store_32 (by decide) (fun hc4 => ?_) (fun hc4 => ?_)
      · have h := rk_if hc4 h
        refine lv_aload_n hx hb dX10_store_38 rfl (lv_at hl 0 rfl) ?_
        refine va_get (D := D) (ci := 9) (v := .ref a_this_entryFamily) (C := RX10) (T := TX10) (N := 17) hx hb htc inX10 hown hV.1 hP 0 rfl rfl 14 (by decide) (htc _ w_4_12) (fun _ h9 => h9) rfl dX10_store_39 ?_
        refine lv_aload_n hx hb dX10_store_42 rfl (lv_at hl 0 rfl) ?_
        refine va_get (D := D) (ci := 9) (v := .int f_this_entryMany) (C := RX10) (T := TX10) (N := 17) hx hb htc inX10 hown hV.1 hP 0 rfl rfl 13 (by decide) (htc _ w_4_11) (fun _ h9 => h9) rfl dX10_store_43 ?_
        refine lv_aload_n hx hb dX10_store_46 rfl (lv_at hl 0 rfl) ?_
        refine va_get (D := D) (ci := 9) (v := .int f_this_now) (C := RX10) (T := TX10) (N := 17) hx hb htc inX10 hown hV.1 hP 0 rfl rfl 5 (by decide) (htc _ w_4_3) (fun _ h9 => h9) rfl dX10_store_47 ?_
        obtain ⟨hg5, h⟩ := rk_gd h
        refine va_iast hx hb hV.1 hP hD hS 1 0 rfl rfl hg5 dX10_store_50 (fun H locs hP hD hS => ?_)
        have hP : va_P D vwCl [(a_this, .inr (9, [.ref a_this_chosen, .ref a_this_factorial, .ref a_this_catalan, .ref a_this_parted, .ref a_this_closed, .int f_this_now, .ref a_this_of, .ref a_this_buffer, .ref a_this_made, .ref a_this_stackOne, .ref a_this_stackOther, .ref a_this_stackLong, .ref a_this_left, .int f_this_entryMany, .ref a_this_entryFamily, .ref a_this_entryOf, .ref a_this_entryRank])), (a_this_entryFamily, .inl (cI, 10, .inl (upd c_this_entryFamily f_this_entryMany.toNatClampNeg f_this_now))), (a_this_entryOf, .inl (cI, 40, .inl c_this_entryOf)), (a_this_entryRank, .inl (cJ, 10, .inr (.inl c_this_entryRank))), (a_this_left, .inl (cI, 4, .inl c_this_left)), (a_this_stackLong, .inl (cJ, 64, .inr (.inl c_this_stackLong))), (a_this_stackOne, .inl (cI, 64, .inl r_1.2))] H := hP
        have hD : va_D A [(a_this, .inr (9, [.ref a_this_chosen, .ref a_this_factorial, .ref a_this_catalan, .ref a_this_parted, .ref a_this_closed, .int f_this_now, .ref a_this_of, .ref a_this_buffer, .ref a_this_made, .ref a_this_stackOne, .ref a_this_stackOther, .ref a_this_stackLong, .ref a_this_left, .int f_this_entryMany, .ref a_this_entryFamily, .ref a_this_entryOf, .ref a_this_entryRank])), (a_this_entryFamily, .inl (cI, 10, .inl (upd c_this_entryFamily f_this_entryMany.toNatClampNeg f_this_now))), (a_this_entryOf, .inl (cI, 40, .inl c_this_entryOf)), (a_this_entryRank, .inl (cJ, 10, .inr (.inl c_this_entryRank))), (a_this_left, .inl (cI, 4, .inl c_this_left)), (a_this_stackLong, .inl (cJ, 64, .inr (.inl c_this_stackLong))), (a_this_stackOne, .inl (cI, 64, .inl r_1.2))] := hD
        have hR := rk_keep hR0 hn hS
        refine lv_iconst (v := 0) hx hb dX10_store_51 (by decide) ?_
        refine lv_istore_n (lv' := [(1, .int (0 : Int32)), (0, .ref a_this)]) hx hb dX10_store_52 rfl hl (by decide) rfl (fun ls hl => ?_)
        have L53 : ∀ (n53 : Nat) (b53_l1 : Int32) (b53_c_this_entryOf : Nat → Int32), rk_it2 (fX10_store_L53 f_this_now f_this_entryMany c_this_entryFamily c_this_entryRank c_this_left c_this_stackLong c_this_buffer c_this_catalan c_this_chosen c_this_closed c_this_factorial c_this_of c_this_parted r_1) n53 b53_l1 b53_c_this_entryOf = some r0 → ∀ (H : Heap) (locs : List Loc), va_P D vwCl [(a_this, .inr (9, [.ref a_this_chosen, .ref a_this_factorial, .ref a_this_catalan, .ref a_this_parted, .ref a_this_closed, .int f_this_now, .ref a_this_of, .ref a_this_buffer, .ref a_this_made, .ref a_this_stackOne, .ref a_this_stackOther, .ref a_this_stackLong, .ref a_this_left, .int f_this_entryMany, .ref a_this_entryFamily, .ref a_this_entryOf, .ref a_this_entryRank])), (a_this_entryFamily, .inl (cI, 10, .inl (upd c_this_entryFamily f_this_entryMany.toNatClampNeg f_this_now))), (a_this_entryOf, .inl (cI, 40, .inl b53_c_this_entryOf)), (a_this_entryRank, .inl (cJ, 10, .inr (.inl c_this_entryRank))), (a_this_left, .inl (cI, 4, .inl c_this_left)), (a_this_stackLong, .inl (cJ, 64, .inr (.inl c_this_stackLong))), (a_this_stackOne, .inl (cI, 64, .inl r_1.2))] H → va_D A [(a_this, .inr (9, [.ref a_this_chosen, .ref a_this_factorial, .ref a_this_catalan, .ref a_this_parted, .ref a_this_closed, .int f_this_now, .ref a_this_of, .ref a_this_buffer, .ref a_this_made, .ref a_this_stackOne, .ref a_this_stackOther, .ref a_this_stackLong, .ref a_this_left, .int f_this_entryMany, .ref a_this_entryFamily, .ref a_this_entryOf, .ref a_this_entryRank])), (a_this_entryFamily, .inl (cI, 10, .inl (upd c_this_entryFamily f_this_entryMany.toNatClampNeg f_this_now))), (a_this_entryOf, .inl (cI, 40, .inl b53_c_this_entryOf)), (a_this_entryRank, .inl (cJ, 10, .inr (.inl c_this_entryRank))), (a_this_left, .inl (cI, 4, .inl c_this_left)), (a_this_stackLong, .inl (cJ, 64, .inr (.inl c_this_stackLong))), (a_this_stackOne, .inl (cI, 64, .inl r_1.2))] → va_S A s.heap H locs → ∀ (ls : Array Slot), lv_has ls 2 [(0, .ref a_this), (1, .int b53_l1)] → W p l e rmX10_store s m args below meth c H locs 0 0 Q (F0 m 53 ls []) := by
          intro n53
          induction n53 with
          | zero => intro b53_l1 b53_c_this_entryOf h; exact rk_no h
          | succ n53 ih53 =>
            intro b53_l1 b53_c_this_entryOf h H locs hP hD hS ls hl
            have h : fX10_store_L53 f_this_now f_this_entryMany c_this_entryFamily c_this_entryRank c_this_left c_this_stackLong c_this_buffer c_this_catalan c_this_chosen c_this_closed c_this_factorial c_this_of c_this_parted r_1 (rk_it2 (fX10_store_L53 f_this_now f_this_entryMany c_this_entryFamily c_this_entryRank c_this_left c_this_stackLong c_this_buffer c_this_catalan c_this_chosen c_this_closed c_this_factorial c_this_of c_this_parted r_1) n53) b53_l1 b53_c_this_entryOf = some r0 := h
            unfold fX10_store_L53 at h
            have hR := rk_keep hR0 hn hS
            refine lv_iload_n hx hb dX10_store_53 rfl (lv_at hl 1 rfl) ?_
            refine lv_iconst (v := 4) hx hb dX10_store_54 (by decide) ?_
            refine lv_icmp_ge (tgt := 83) hx hb dX10_store_55 (by decide) (fun hc6 => ?_) (fun hc6 => ?_)
            · have h := rk_if hc6 h
              refine lv_aload_n hx hb dX10_store_83 rfl (lv_at hl 0 rfl) ?_
              refine va_get (D := D) (ci := 9) (v := .ref a_this_entryRank) (C := RX10) (T := TX10) (N := 17) hx hb htc inX10 hown hV.1 hP 0 rfl rfl 16 (by decide) (htc _ w_4_14) (fun _ h9 => h9) rfl dX10_store_84 ?_
              refine lv_aload_n hx hb dX10_store_87 rfl (lv_at hl 0 rfl) ?_
              refine va_get (D := D) (ci := 9) (v := .int f_this_entryMany) (C := RX10) (T := TX10) (N := 17) hx hb htc inX10 hown hV.1 hP 0 rfl rfl 13 (by decide) (htc _ w_4_11) (fun _ h9 => h9) rfl dX10_store_88 ?_
              refine lv_aload_n hx hb dX10_store_91 rfl (lv_at hl 0 rfl) ?_
              obtain ⟨r_92, hc_92, h⟩ := rk_bd h
              refine rk_l (wr := [(a_this, .inr (9, [.ref a_this_chosen, .ref a_this_factorial, .ref a_this_catalan, .ref a_this_parted, .ref a_this_closed, .int f_this_now, .ref a_this_of, .ref a_this_buffer, .ref a_this_made, .ref a_this_stackOne, .ref a_this_stackOther, .ref a_this_stackLong, .ref a_this_left, .int f_this_entryMany, .ref a_this_entryFamily, .ref a_this_entryOf, .ref a_this_entryRank])), (a_this_entryFamily, .inl (cI, 10, .inl (upd c_this_entryFamily f_this_entryMany.toNatClampNeg f_this_now))), (a_this_entryOf, .inl (cI, 40, .inl b53_c_this_entryOf)), (a_this_entryRank, .inl (cJ, 10, .inr (.inl c_this_entryRank)))]) (va_runV (C := RX10) (As := []) (rest := [.int f_this_entryMany, .ref a_this_entryRank]) hF (mtX10_rankNow l D cI cJ cO PL _ a_this a_this_chosen a_this_factorial a_this_catalan a_this_parted a_this_closed f_this_now a_this_of a_this_buffer a_this_made a_this_stackOne a_this_stackOther a_this_stackLong a_this_left f_this_entryMany a_this_entryFamily a_this_entryOf a_this_entryRank c_this_left c_this_stackLong r_1.2 c_this_buffer c_this_catalan c_this_chosen c_this_closed c_this_factorial c_this_of c_this_parted r_92 hc_92) (cwV 0 htc (rk_gV w_4_221 w_4_223 ws_61 w_1_7 w_4_224) rfl rfl rfl (by decide +kernel) ⟨(Nat.le_of_ble_eq_true rfl), (Nat.le_of_ble_eq_true rfl)⟩) (rk_preV (va_recv hV.1 hP (ci := 9) (q0 := 0) rfl rfl) (rk_preS hP hD hS hR hn hPL hnl hV [4, 5, 6] [(true, 0), (false, 0), (false, 1), (false, 2), (false, 3), (false, 4), (false, 5), (false, 6)] rfl (by decide) rfl (by decide))) rfl rfl hl.1 rfl (lv_room (Nat.le_of_ble_eq_true rfl)) dX10_store_92 ⟨(Nat.le_of_ble_eq_true rfl), (Nat.le_of_ble_eq_true rfl)⟩) hP hD hS hA hR0 hn [4, 5, 6] [0, 1, 2, 3] rfl rfl (by decide) (by decide) (fun H locs hP hD hS hR => ?_)
              have hP : va_P D vwCl [(a_this, .inr (9, [.ref a_this_chosen, .ref a_this_factorial, .ref a_this_catalan, .ref a_this_parted, .ref a_this_closed, .int f_this_now, .ref a_this_of, .ref a_this_buffer, .ref a_this_made, .ref a_this_stackOne, .ref a_this_stackOther, .ref a_this_stackLong, .ref a_this_left, .int f_this_entryMany, .ref a_this_entryFamily, .ref a_this_entryOf, .ref a_this_entryRank])), (a_this_entryFamily, .inl (cI, 10, .inl (upd c_this_entryFamily f_this_entryMany.toNatClampNeg f_this_now))), (a_this_entryOf, .inl (cI, 40, .inl b53_c_this_entryOf)), (a_this_entryRank, .inl (cJ, 10, .inr (.inl c_this_entryRank))), (a_this_left, .inl (cI, 4, .inl r_92.2.1)), (a_this_stackLong, .inl (cJ, 64, .inr (.inl r_92.2.2.1))), (a_this_stackOne, .inl (cI, 64, .inl r_92.2.2.2))] H := hP
              have hD : va_D A [(a_this, .inr (9, [.ref a_this_chosen, .ref a_this_factorial, .ref a_this_catalan, .ref a_this_parted, .ref a_this_closed, .int f_this_now, .ref a_this_of, .ref a_this_buffer, .ref a_this_made, .ref a_this_stackOne, .ref a_this_stackOther, .ref a_this_stackLong, .ref a_this_left, .int f_this_entryMany, .ref a_this_entryFamily, .ref a_this_entryOf, .ref a_this_entryRank])), (a_this_entryFamily, .inl (cI, 10, .inl (upd c_this_entryFamily f_this_entryMany.toNatClampNeg f_this_now))), (a_this_entryOf, .inl (cI, 40, .inl b53_c_this_entryOf)), (a_this_entryRank, .inl (cJ, 10, .inr (.inl c_this_entryRank))), (a_this_left, .inl (cI, 4, .inl r_92.2.1)), (a_this_stackLong, .inl (cJ, 64, .inr (.inl r_92.2.2.1))), (a_this_stackOne, .inl (cI, 64, .inl r_92.2.2.2))] := hD
              refine va_last hx hb hV.1 hP hD hS 3 1 rfl rfl hg5 dX10_store_95 (fun H locs hP hD hS => ?_)
              have hP : va_P D vwCl [(a_this, .inr (9, [.ref a_this_chosen, .ref a_this_factorial, .ref a_this_catalan, .ref a_this_parted, .ref a_this_closed, .int f_this_now, .ref a_this_of, .ref a_this_buffer, .ref a_this_made, .ref a_this_stackOne, .ref a_this_stackOther, .ref a_this_stackLong, .ref a_this_left, .int f_this_entryMany, .ref a_this_entryFamily, .ref a_this_entryOf, .ref a_this_entryRank])), (a_this_entryFamily, .inl (cI, 10, .inl (upd c_this_entryFamily f_this_entryMany.toNatClampNeg f_this_now))), (a_this_entryOf, .inl (cI, 40, .inl b53_c_this_entryOf)), (a_this_entryRank, .inl (cJ, 10, .inr (.inl (vp_updL c_this_entryRank f_this_entryMany.toNatClampNeg r_92.1)))), (a_this_left, .inl (cI, 4, .inl r_92.2.1)), (a_this_stackLong, .inl (cJ, 64, .inr (.inl r_92.2.2.1))), (a_this_stackOne, .inl (cI, 64, .inl r_92.2.2.2))] H := hP
              have hD : va_D A [(a_this, .inr (9, [.ref a_this_chosen, .ref a_this_factorial, .ref a_this_catalan, .ref a_this_parted, .ref a_this_closed, .int f_this_now, .ref a_this_of, .ref a_this_buffer, .ref a_this_made, .ref a_this_stackOne, .ref a_this_stackOther, .ref a_this_stackLong, .ref a_this_left, .int f_this_entryMany, .ref a_this_entryFamily, .ref a_this_entryOf, .ref a_this_entryRank])), (a_this_entryFamily, .inl (cI, 10, .inl (upd c_this_entryFamily f_this_entryMany.toNatClampNeg f_this_now))), (a_this_entryOf, .inl (cI, 40, .inl b53_c_this_entryOf)), (a_this_entryRank, .inl (cJ, 10, .inr (.inl (vp_updL c_this_entryRank f_this_entryMany.toNatClampNeg r_92.1)))), (a_this_left, .inl (cI, 4, .inl r_92.2.1)), (a_this_stackLong, .inl (cJ, 64, .inr (.inl r_92.2.2.1))), (a_this_stackOne, .inl (cI, 64, .inl r_92.2.2.2))] := hD
              have hR := rk_keep hR0 hn hS
              refine lv_aload_n hx hb dX10_store_96 rfl (lv_at hl 0 rfl) ?_
              refine lv_dup hx hb dX10_store_97 rfl ?_
              refine va_get (D := D) (ci := 9) (v := .int f_this_entryMany) (C := RX10) (T := TX10) (N := 17) hx hb htc inX10 hown hV.1 hP 0 rfl rfl 13 (by decide) (htc _ w_4_11) (fun _ h9 => h9) rfl dX10_store_98 ?_
              refine lv_iconst (v := 1) hx hb dX10_store_101 (by decide) ?_
              refine lv_iadd hx hb dX10_store_102 ?_
              refine va_put (D := D) (ci := 9) (v := .int (f_this_entryMany + (1 : Int32))) (ty := .int) (C := RX10) (T := TX10) (N := 17) hx hb htc inX10 tyX10 tyX10_ok nmX10 hown hV.1 hP hD hS 0 rfl rfl 13 (by decide) (htc _ w_4_11) (fun _ h9 => h9) rfl (by decide +kernel) rfl rfl (Nat.le_of_ble_eq_true rfl) dX10_store_103 (fun H locs hP hD hS => ?_)
              have hP : va_P D vwCl [(a_this, .inr (9, [.ref a_this_chosen, .ref a_this_factorial, .ref a_this_catalan, .ref a_this_parted, .ref a_this_closed, .int f_this_now, .ref a_this_of, .ref a_this_buffer, .ref a_this_made, .ref a_this_stackOne, .ref a_this_stackOther, .ref a_this_stackLong, .ref a_this_left, .int (f_this_entryMany + (1 : Int32)), .ref a_this_entryFamily, .ref a_this_entryOf, .ref a_this_entryRank])), (a_this_entryFamily, .inl (cI, 10, .inl (upd c_this_entryFamily f_this_entryMany.toNatClampNeg f_this_now))), (a_this_entryOf, .inl (cI, 40, .inl b53_c_this_entryOf)), (a_this_entryRank, .inl (cJ, 10, .inr (.inl (vp_updL c_this_entryRank f_this_entryMany.toNatClampNeg r_92.1)))), (a_this_left, .inl (cI, 4, .inl r_92.2.1)), (a_this_stackLong, .inl (cJ, 64, .inr (.inl r_92.2.2.1))), (a_this_stackOne, .inl (cI, 64, .inl r_92.2.2.2))] H := hP
              have hD : va_D A [(a_this, .inr (9, [.ref a_this_chosen, .ref a_this_factorial, .ref a_this_catalan, .ref a_this_parted, .ref a_this_closed, .int f_this_now, .ref a_this_of, .ref a_this_buffer, .ref a_this_made, .ref a_this_stackOne, .ref a_this_stackOther, .ref a_this_stackLong, .ref a_this_left, .int (f_this_entryMany + (1 : Int32)), .ref a_this_entryFamily, .ref a_this_entryOf, .ref a_this_entryRank])), (a_this_entryFamily, .inl (cI, 10, .inl (upd c_this_entryFamily f_this_entryMany.toNatClampNeg f_this_now))), (a_this_entryOf, .inl (cI, 40, .inl b53_c_this_entryOf)), (a_this_entryRank, .inl (cJ, 10, .inr (.inl (vp_updL c_this_entryRank f_this_entryMany.toNatClampNeg r_92.1)))), (a_this_left, .inl (cI, 4, .inl r_92.2.1)), (a_this_stackLong, .inl (cJ, 64, .inr (.inl r_92.2.2.1))), (a_this_stackOne, .inl (cI, 64, .inl r_92.2.2.2))] := hD
              have hR := rk_keep hR0 hn hS
              refine lv_aload_n hx hb dX10_store_106 rfl (lv_at hl 0 rfl) ?_
              refine va_get (D := D) (ci := 9) (v := .int (f_this_entryMany + (1 : Int32))) (C := RX10) (T := TX10) (N := 17) hx hb htc inX10 hown hV.1 hP 0 rfl rfl 13 (by decide) (htc _ w_4_11) (fun _ h9 => h9) rfl dX10_store_107 ?_
              refine lv_iconst (v := 1) hx hb dX10_store_110 (by decide) ?_
              refine lv_isub hx hb dX10_store_111 ?_
              exact hret (((f_this_entryMany + (1 : Int32)) - (1 : Int32)), (f_this_entryMany + (1 : Int32)), (upd c_this_entryFamily f_this_entryMany.toNatClampNeg f_this_now), b53_c_this_entryOf, (vp_updL c_this_entryRank f_this_entryMany.toNatClampNeg r_92.1), r_92.2.1, r_92.2.2.1, r_92.2.2.2) _ _ _ _ h dX10_store_112 hP hD hS
            · have h := rk_nif hc6 h
              refine lv_aload_n hx hb dX10_store_58 rfl (lv_at hl 0 rfl) ?_
              refine va_get (D := D) (ci := 9) (v := .ref a_this_entryOf) (C := RX10) (T := TX10) (N := 17) hx hb htc inX10 hown hV.1 hP 0 rfl rfl 15 (by decide) (htc _ w_4_13) (fun _ h9 => h9) rfl dX10_store_59 ?_
              refine lv_iconst (v := 4) hx hb dX10_store_62 (by decide) ?_
              refine lv_aload_n hx hb dX10_store_63 rfl (lv_at hl 0 rfl) ?_
              refine va_get (D := D) (ci := 9) (v := .int f_this_entryMany) (C := RX10) (T := TX10) (N := 17) hx hb htc inX10 hown hV.1 hP 0 rfl rfl 13 (by decide) (htc _ w_4_11) (fun _ h9 => h9) rfl dX10_store_64 ?_
              refine lv_imul hx hb dX10_store_67 ?_
              refine lv_iload_n hx hb dX10_store_68 rfl (lv_at hl 1 rfl) ?_
              refine lv_iadd hx hb dX10_store_69 ?_
              refine lv_aload_n hx hb dX10_store_70 rfl (lv_at hl 0 rfl) ?_
              refine va_get (D := D) (ci := 9) (v := .ref a_this_of) (C := RX10) (T := TX10) (N := 17) hx hb htc inX10 hown hV.1 hP 0 rfl rfl 6 (by decide) (htc _ w_4_4) (fun _ h9 => h9) rfl dX10_store_71 ?_
              refine lv_iload_n hx hb dX10_store_74 rfl (lv_at hl 1 rfl) ?_
              obtain ⟨hg7, h⟩ := rk_gd h
              refine va_iald hx hb hV.1 hR 5 0 rfl rfl hg7 dX10_store_75 ?_
              obtain ⟨hg8, h⟩ := rk_gd h
              refine va_iast hx hb hV.1 hP hD hS 2 0 rfl rfl hg8 dX10_store_76 (fun H locs hP hD hS => ?_)
              have hP : va_P D vwCl [(a_this, .inr (9, [.ref a_this_chosen, .ref a_this_factorial, .ref a_this_catalan, .ref a_this_parted, .ref a_this_closed, .int f_this_now, .ref a_this_of, .ref a_this_buffer, .ref a_this_made, .ref a_this_stackOne, .ref a_this_stackOther, .ref a_this_stackLong, .ref a_this_left, .int f_this_entryMany, .ref a_this_entryFamily, .ref a_this_entryOf, .ref a_this_entryRank])), (a_this_entryFamily, .inl (cI, 10, .inl (upd c_this_entryFamily f_this_entryMany.toNatClampNeg f_this_now))), (a_this_entryOf, .inl (cI, 40, .inl (upd b53_c_this_entryOf (((4 : Int32) * f_this_entryMany) + b53_l1).toNatClampNeg (c_this_of b53_l1.toNatClampNeg)))), (a_this_entryRank, .inl (cJ, 10, .inr (.inl c_this_entryRank))), (a_this_left, .inl (cI, 4, .inl c_this_left)), (a_this_stackLong, .inl (cJ, 64, .inr (.inl c_this_stackLong))), (a_this_stackOne, .inl (cI, 64, .inl r_1.2))] H := hP
              have hD : va_D A [(a_this, .inr (9, [.ref a_this_chosen, .ref a_this_factorial, .ref a_this_catalan, .ref a_this_parted, .ref a_this_closed, .int f_this_now, .ref a_this_of, .ref a_this_buffer, .ref a_this_made, .ref a_this_stackOne, .ref a_this_stackOther, .ref a_this_stackLong, .ref a_this_left, .int f_this_entryMany, .ref a_this_entryFamily, .ref a_this_entryOf, .ref a_this_entryRank])), (a_this_entryFamily, .inl (cI, 10, .inl (upd c_this_entryFamily f_this_entryMany.toNatClampNeg f_this_now))), (a_this_entryOf, .inl (cI, 40, .inl (upd b53_c_this_entryOf (((4 : Int32) * f_this_entryMany) + b53_l1).toNatClampNeg (c_this_of b53_l1.toNatClampNeg)))), (a_this_entryRank, .inl (cJ, 10, .inr (.inl c_this_entryRank))), (a_this_left, .inl (cI, 4, .inl c_this_left)), (a_this_stackLong, .inl (cJ, 64, .inr (.inl c_this_stackLong))), (a_this_stackOne, .inl (cI, 64, .inl r_1.2))] := hD
              have hR := rk_keep hR0 hn hS
              refine lv_iinc (v := (b53_l1 + 1)) (lv' := [(1, .int (b53_l1 + 1)), (0, .ref a_this)]) hx hb dX10_store_77 hl (k := 1) rfl rfl (by decide) rfl (fun ls hl => ?_)
              refine lv_goto (tgt := 53) hx hb dX10_store_80 (by decide) ?_
              exact ih53 (b53_l1 + 1) (upd b53_c_this_entryOf (((4 : Int32) * f_this_entryMany) + b53_l1).toNatClampNeg (c_this_of b53_l1.toNatClampNeg)) h _ _ hP hD hS _ (lv_sub hl [1, 0] rfl)
        exact L53 FU (0 : Int32) c_this_entryOf h _ _ hP hD hS _ (lv_sub hl [1, 0] rfl)
      · have h := rk_nif hc4 h
        refine lv_bipush (v := (-4)) hx hb dX10_store_35 (by decide) ?_
        exact hret ((-4 : Int32), f_this_entryMany, c_this_entryFamily, c_this_entryOf, c_this_entryRank, c_this_left, c_this_stackLong, r_1.2) _ _ _ _ h dX10_store_37 hP hD hS
  · have h := rk_nnif hc1 h
    refine lv_bipush (v := (-2)) hx hb dX10_store_7 (by decide) ?_
    exact hret ((-2 : Int32), f_this_entryMany, c_this_entryFamily, c_this_entryOf, c_this_entryRank, c_this_left, c_this_stackLong, r_1.2) _ _ _ _ h dX10_store_9 hP hD hS
set_option maxHeartbeats 4000000 in
set_option maxRecDepth 100000 in
theorem mtX10_fetch (l : Launch) (D : va_G) (cI cJ cO : ClassId) (PL : va_W) (sz : Nat) (a_this : Nat) (a_this_chosen : Nat) (a_this_factorial : Nat) (a_this_catalan : Nat) (a_this_parted : Nat) (a_this_closed : Nat) (f_this_now : Int32) (a_this_of : Nat) (a_this_buffer : Nat) (a_this_made : Nat) (a_this_stackOne : Nat) (a_this_stackOther : Nat) (a_this_stackLong : Nat) (a_this_left : Nat) (f_this_entryMany : Int32) (a_this_entryFamily : Nat) (a_this_entryOf : Nat) (a_this_entryRank : Nat) (c_this_buffer : Nat → Int32) (c_this_left : Nat → Int32) (c_this_made : Nat → Int32) (c_this_of : Nat → Int32) (c_this_stackLong : Nat → Int64) (c_this_stackOne : Nat → Int32) (c_this_catalan : Nat → Int64) (c_this_chosen : Nat → Int64) (c_this_closed : Nat → Int64) (c_this_entryFamily : Nat → Int32) (c_this_entryOf : Nat → Int32) (c_this_entryRank : Nat → Int64) (c_this_parted : Nat → Int64) (v_p1 : Int32) (r0 : Int32 × Int32 × (Nat → Int32) × (Nat → Int32) × (Nat → Int32) × (Nat → Int32) × (Nat → Int64) × (Nat → Int32)) (h : fX10_fetch f_this_now f_this_entryMany c_this_buffer c_this_left c_this_made c_this_of c_this_stackLong c_this_stackOne c_this_catalan c_this_chosen c_this_closed c_this_entryFamily c_this_entryOf c_this_entryRank c_this_parted v_p1 = some r0) : Met l yX10_fetch (rk_w yX10_fetch cX10_fetch 2 (some .int)) rmX10_fetch (va_Pc [.ref a_this, .int v_p1] (rk_B D (rk_TY cI cJ cO) [(a_this, .inr (9, [.ref a_this_chosen, .ref a_this_factorial, .ref a_this_catalan, .ref a_this_parted, .ref a_this_closed, .int f_this_now, .ref a_this_of, .ref a_this_buffer, .ref a_this_made, .ref a_this_stackOne, .ref a_this_stackOther, .ref a_this_stackLong, .ref a_this_left, .int f_this_entryMany, .ref a_this_entryFamily, .ref a_this_entryOf, .ref a_this_entryRank])), (a_this_buffer, .inl (cI, 60, .inl c_this_buffer)), (a_this_left, .inl (cI, 4, .inl c_this_left)), (a_this_made, .inl (cI, 60, .inl c_this_made)), (a_this_of, .inl (cI, 4, .inl c_this_of)), (a_this_stackLong, .inl (cJ, 64, .inr (.inl c_this_stackLong))), (a_this_stackOne, .inl (cI, 64, .inl c_this_stackOne))] [(a_this_catalan, .inl (cJ, 31, .inr (.inl c_this_catalan))), (a_this_chosen, .inl (cJ, 3721, .inr (.inl c_this_chosen))), (a_this_closed, .inl (cJ, 1722, .inr (.inl c_this_closed))), (a_this_entryFamily, .inl (cI, 10, .inl c_this_entryFamily)), (a_this_entryOf, .inl (cI, 40, .inl c_this_entryOf)), (a_this_entryRank, .inl (cJ, 10, .inr (.inl c_this_entryRank))), (a_this_parted, .inl (cJ, 3721, .inr (.inl c_this_parted)))] PL sz)) (rk_Qi r0.1 D [(a_this, .inr (9, [.ref a_this_chosen, .ref a_this_factorial, .ref a_this_catalan, .ref a_this_parted, .ref a_this_closed, .int r0.2.1, .ref a_this_of, .ref a_this_buffer, .ref a_this_made, .ref a_this_stackOne, .ref a_this_stackOther, .ref a_this_stackLong, .ref a_this_left, .int f_this_entryMany, .ref a_this_entryFamily, .ref a_this_entryOf, .ref a_this_entryRank])), (a_this_buffer, .inl (cI, 60, .inl r0.2.2.1)), (a_this_left, .inl (cI, 4, .inl r0.2.2.2.1)), (a_this_made, .inl (cI, 60, .inl r0.2.2.2.2.1)), (a_this_of, .inl (cI, 4, .inl r0.2.2.2.2.2.1)), (a_this_stackLong, .inl (cJ, 64, .inr (.inl r0.2.2.2.2.2.2.1))), (a_this_stackOne, .inl (cI, 64, .inl r0.2.2.2.2.2.2.2))] [(a_this, .inr (9, [.ref a_this_chosen, .ref a_this_factorial, .ref a_this_catalan, .ref a_this_parted, .ref a_this_closed, .int f_this_now, .ref a_this_of, .ref a_this_buffer, .ref a_this_made, .ref a_this_stackOne, .ref a_this_stackOther, .ref a_this_stackLong, .ref a_this_left, .int f_this_entryMany, .ref a_this_entryFamily, .ref a_this_entryOf, .ref a_this_entryRank])), (a_this_buffer, .inl (cI, 60, .inl c_this_buffer)), (a_this_left, .inl (cI, 4, .inl c_this_left)), (a_this_made, .inl (cI, 60, .inl c_this_made)), (a_this_of, .inl (cI, 4, .inl c_this_of)), (a_this_stackLong, .inl (cJ, 64, .inr (.inl c_this_stackLong))), (a_this_stackOne, .inl (cI, 64, .inl c_this_stackOne))] sz) 0 0 (va_A [(a_this, .inr (9, [.ref a_this_chosen, .ref a_this_factorial, .ref a_this_catalan, .ref a_this_parted, .ref a_this_closed, .int f_this_now, .ref a_this_of, .ref a_this_buffer, .ref a_this_made, .ref a_this_stackOne, .ref a_this_stackOther, .ref a_this_stackLong, .ref a_this_left, .int f_this_entryMany, .ref a_this_entryFamily, .ref a_this_entryOf, .ref a_this_entryRank])), (a_this_buffer, .inl (cI, 60, .inl c_this_buffer)), (a_this_left, .inl (cI, 4, .inl c_this_left)), (a_this_made, .inl (cI, 60, .inl c_this_made)), (a_this_of, .inl (cI, 4, .inl c_this_of)), (a_this_stackLong, .inl (cJ, 64, .inr (.inl c_this_stackLong))), (a_this_stackOne, .inl (cI, 64, .inl c_this_stackOne))] sz) := by
  refine rk_meti h (fun x : Int32 × Int32 × (Nat → Int32) × (Nat → Int32) × (Nat → Int32) × (Nat → Int32) × (Nat → Int64) × (Nat → Int32) => x.1) (fun x => [(a_this, .inr (9, [.ref a_this_chosen, .ref a_this_factorial, .ref a_this_catalan, .ref a_this_parted, .ref a_this_closed, .int x.2.1, .ref a_this_of, .ref a_this_buffer, .ref a_this_made, .ref a_this_stackOne, .ref a_this_stackOther, .ref a_this_stackLong, .ref a_this_left, .int f_this_entryMany, .ref a_this_entryFamily, .ref a_this_entryOf, .ref a_this_entryRank])), (a_this_buffer, .inl (cI, 60, .inl x.2.2.1)), (a_this_left, .inl (cI, 4, .inl x.2.2.2.1)), (a_this_made, .inl (cI, 60, .inl x.2.2.2.2.1)), (a_this_of, .inl (cI, 4, .inl x.2.2.2.2.2.1)), (a_this_stackLong, .inl (cJ, 64, .inr (.inl x.2.2.2.2.2.2.1))), (a_this_stackOne, .inl (cI, 64, .inl x.2.2.2.2.2.2.2))]) (by decide) (Nat.le_of_ble_eq_true rfl) ?_
  intro p e s m args below meth c A ls Q hret hname hF hP hD hA hV hR0 hn hPL hnl hl h hS
  have hx := hF.1
  have hb := hF.2.1
  have hml := hF.2.2.1
  have hown : s.vm.findClass RX10 = some m.cls := hF.2.2.2.1
  have htc := hF.2.2.2.2
  have hP : va_P D vwCl [(a_this, .inr (9, [.ref a_this_chosen, .ref a_this_factorial, .ref a_this_catalan, .ref a_this_parted, .ref a_this_closed, .int f_this_now, .ref a_this_of, .ref a_this_buffer, .ref a_this_made, .ref a_this_stackOne, .ref a_this_stackOther, .ref a_this_stackLong, .ref a_this_left, .int f_this_entryMany, .ref a_this_entryFamily, .ref a_this_entryOf, .ref a_this_entryRank])), (a_this_buffer, .inl (cI, 60, .inl c_this_buffer)), (a_this_left, .inl (cI, 4, .inl c_this_left)), (a_this_made, .inl (cI, 60, .inl c_this_made)), (a_this_of, .inl (cI, 4, .inl c_this_of)), (a_this_stackLong, .inl (cJ, 64, .inr (.inl c_this_stackLong))), (a_this_stackOne, .inl (cI, 64, .inl c_this_stackOne))] s.heap := hP
  have hD : va_D A [(a_this, .inr (9, [.ref a_this_chosen, .ref a_this_factorial, .ref a_this_catalan, .ref a_this_parted, .ref a_this_closed, .int f_this_now, .ref a_this_of, .ref a_this_buffer, .ref a_this_made, .ref a_this_stackOne, .ref a_this_stackOther, .ref a_this_stackLong, .ref a_this_left, .int f_this_entryMany, .ref a_this_entryFamily, .ref a_this_entryOf, .ref a_this_entryRank])), (a_this_buffer, .inl (cI, 60, .inl c_this_buffer)), (a_this_left, .inl (cI, 4, .inl c_this_left)), (a_this_made, .inl (cI, 60, .inl c_this_made)), (a_this_of, .inl (cI, 4, .inl c_this_of)), (a_this_stackLong, .inl (cJ, 64, .inr (.inl c_this_stackLong))), (a_this_stackOne, .inl (cI, 64, .inl c_this_stackOne))] := hD
  have hR0 : va_P D vwCl [(a_this_catalan, .inl (cJ, 31, .inr (.inl c_this_catalan))), (a_this_chosen, .inl (cJ, 3721, .inr (.inl c_this_chosen))), (a_this_closed, .inl (cJ, 1722, .inr (.inl c_this_closed))), (a_this_entryFamily, .inl (cI, 10, .inl c_this_entryFamily)), (a_this_entryOf, .inl (cI, 40, .inl c_this_entryOf)), (a_this_entryRank, .inl (cJ, 10, .inr (.inl c_this_entryRank))), (a_this_parted, .inl (cJ, 3721, .inr (.inl c_this_parted)))] s.heap := hR0
  have hR := hR0
  have hl : lv_has ls 2 [(0, .ref a_this), (1, .int v_p1)] := hl
  unfold fX10_fetch at h
  refine lv_iload_n hx hb dX10_fetch_0 rfl (lv_at hl 1 rfl) ?_
  refine lv_i2l hx hb dX10_fetch_1 rfl ?_
  refine lv_lconst (v := 0) hx hb dX10_fetch_2 (by decide) ?_
  refine lv_aload_n hx hb dX10_fetch_3 rfl (lv_at hl 0 rfl) ?_
  refine va_get (D := D) (ci := 9) (v := .int f_this_entryMany) (C := RX10) (T := TX10) (N := 17) hx hb htc inX10 hown hV.1 hP 0 rfl rfl 13 (by decide) (htc _ w_4_11) (fun _ h9 => h9) rfl dX10_fetch_4 ?_
  refine lv_i2l hx hb dX10_fetch_7 rfl ?_
  refine lv_lconst (v := 1) hx hb dX10_fetch_8 (by decide) ?_
  refine lv_lsub hx hb dX10_fetch_9 ?_
  obtain ⟨r_10, hc_10, h⟩ := rk_bd h
  refine rk_i (wr := [(a_this, .inr (9, [.ref a_this_chosen, .ref a_this_factorial, .ref a_this_catalan, .ref a_this_parted, .ref a_this_closed, .int f_this_now, .ref a_this_of, .ref a_this_buffer, .ref a_this_made, .ref a_this_stackOne, .ref a_this_stackOther, .ref a_this_stackLong, .ref a_this_left, .int f_this_entryMany, .ref a_this_entryFamily, .ref a_this_entryOf, .ref a_this_entryRank])), (a_this_buffer, .inl (cI, 60, .inl c_this_buffer)), (a_this_left, .inl (cI, 4, .inl c_this_left)), (a_this_made, .inl (cI, 60, .inl c_this_made)), (a_this_of, .inl (cI, 4, .inl c_this_of)), (a_this_stackLong, .inl (cJ, 64, .inr (.inl c_this_stackLong))), (a_this_stackOne, .inl (cI, 64, .inl c_this_stackOne))]) (va_runS (As := [.long v_p1.toInt64, .long (0 : Int64), .long (f_this_entryMany.toInt64 - (1 : Int64))]) (rest := []) hF (mtX10_within l D cI cJ cO PL _ v_p1.toInt64 (0 : Int64) (f_this_entryMany.toInt64 - (1 : Int64)) r_10 hc_10) (va_cwS 3 htc (rk_gVS w_4_55 w_4_56 w_1_7 w_4_57) rfl rfl rfl (by decide +kernel) ⟨(Nat.le_of_ble_eq_true rfl), (Nat.le_of_ble_eq_true rfl)⟩) (rk_preS hP hD hS hR hn hPL hnl hV [] [] rfl (by decide) rfl (by decide)) rfl rfl hl.1 rfl (lv_room (Nat.le_of_ble_eq_true rfl)) dX10_fetch_10 ⟨(Nat.le_of_ble_eq_true rfl), (Nat.le_of_ble_eq_true rfl)⟩) hP hD hS hA hR0 hn [] [0, 1, 2, 3, 4, 5, 6] rfl rfl (by decide) (by decide) (fun H locs hP hD hS hR => ?_)
  have hP : va_P D vwCl [(a_this, .inr (9, [.ref a_this_chosen, .ref a_this_factorial, .ref a_this_catalan, .ref a_this_parted, .ref a_this_closed, .int f_this_now, .ref a_this_of, .ref a_this_buffer, .ref a_this_made, .ref a_this_stackOne, .ref a_this_stackOther, .ref a_this_stackLong, .ref a_this_left, .int f_this_entryMany, .ref a_this_entryFamily, .ref a_this_entryOf, .ref a_this_entryRank])), (a_this_buffer, .inl (cI, 60, .inl c_this_buffer)), (a_this_left, .inl (cI, 4, .inl c_this_left)), (a_this_made, .inl (cI, 60, .inl c_this_made)), (a_this_of, .inl (cI, 4, .inl c_this_of)), (a_this_stackLong, .inl (cJ, 64, .inr (.inl c_this_stackLong))), (a_this_stackOne, .inl (cI, 64, .inl c_this_stackOne))] H := hP
  have hD : va_D A [(a_this, .inr (9, [.ref a_this_chosen, .ref a_this_factorial, .ref a_this_catalan, .ref a_this_parted, .ref a_this_closed, .int f_this_now, .ref a_this_of, .ref a_this_buffer, .ref a_this_made, .ref a_this_stackOne, .ref a_this_stackOther, .ref a_this_stackLong, .ref a_this_left, .int f_this_entryMany, .ref a_this_entryFamily, .ref a_this_entryOf, .ref a_this_entryRank])), (a_this_buffer, .inl (cI, 60, .inl c_this_buffer)), (a_this_left, .inl (cI, 4, .inl c_this_left)), (a_this_made, .inl (cI, 60, .inl c_this_made)), (a_this_of, .inl (cI, 4, .inl c_this_of)), (a_this_stackLong, .inl (cJ, 64, .inr (.inl c_this_stackLong))), (a_this_stackOne, .inl (cI, 64, .inl c_this_stackOne))] := hD
  refine lv_if_ne (tgt := 19) hx hb dX10_fetch_13 (by decide) (fun hc1 => ?_) (fun hc1 => ?_)
  · have h := rk_if hc1 h
    refine lv_aload_n hx hb dX10_fetch_19 rfl (lv_at hl 0 rfl) ?_
    refine lv_aload_n hx hb dX10_fetch_20 rfl (lv_at hl 0 rfl) ?_
    refine va_get (D := D) (ci := 9) (v := .ref a_this_entryFamily) (C := RX10) (T := TX10) (N := 17) hx hb htc inX10 hown hV.1 hP 0 rfl rfl 14 (by decide) (htc _ w_4_12) (fun _ h9 => h9) rfl dX10_fetch_21 ?_
    refine lv_iload_n hx hb dX10_fetch_24 rfl (lv_at hl 1 rfl) ?_
    obtain ⟨hg2, h⟩ := rk_gd h
    refine va_iald hx hb hV.1 hR 3 0 rfl rfl hg2 dX10_fetch_25 ?_
    refine lv_aload_n hx hb dX10_fetch_26 rfl (lv_at hl 0 rfl) ?_
    refine va_get (D := D) (ci := 9) (v := .ref a_this_entryOf) (C := RX10) (T := TX10) (N := 17) hx hb htc inX10 hown hV.1 hP 0 rfl rfl 15 (by decide) (htc _ w_4_13) (fun _ h9 => h9) rfl dX10_fetch_27 ?_
    refine lv_iconst (v := 4) hx hb dX10_fetch_30 (by decide) ?_
    refine lv_iload_n hx hb dX10_fetch_31 rfl (lv_at hl 1 rfl) ?_
    refine lv_imul hx hb dX10_fetch_32 ?_
    obtain ⟨hg3, h⟩ := rk_gd h
    refine va_iald hx hb hV.1 hR 4 0 rfl rfl hg3 dX10_fetch_33 ?_
    refine lv_aload_n hx hb dX10_fetch_34 rfl (lv_at hl 0 rfl) ?_
    refine va_get (D := D) (ci := 9) (v := .ref a_this_entryOf) (C := RX10) (T := TX10) (N := 17) hx hb htc inX10 hown hV.1 hP 0 rfl rfl 15 (by decide) (htc _ w_4_13) (fun _ h9 => h9) rfl dX10_fetch_35 ?_
    refine lv_iconst (v := 4) hx hb dX10_fetch_38 (by decide) ?_
    refine lv_iload_n hx hb dX10_fetch_39 rfl (lv_at hl 1 rfl) ?_
    refine lv_imul hx hb dX10_fetch_40 ?_
    refine lv_iconst (v := 1) hx hb dX10_fetch_41 (by decide) ?_
    refine lv_iadd hx hb dX10_fetch_42 ?_
    obtain ⟨hg4, h⟩ := rk_gd h
    refine va_iald hx hb hV.1 hR 4 0 rfl rfl hg4 dX10_fetch_43 ?_
    refine lv_aload_n hx hb dX10_fetch_44 rfl (lv_at hl 0 rfl) ?_
    refine va_get (D := D) (ci := 9) (v := .ref a_this_entryOf) (C := RX10) (T := TX10) (N := 17) hx hb htc inX10 hown hV.1 hP 0 rfl rfl 15 (by decide) (htc _ w_4_13) (fun _ h9 => h9) rfl dX10_fetch_45 ?_
    refine lv_iconst (v := 4) hx hb dX10_fetch_48 (by decide) ?_
    refine lv_iload_n hx hb dX10_fetch_49 rfl (lv_at hl 1 rfl) ?_
    refine lv_imul hx hb dX10_fetch_50 ?_
    refine lv_iconst (v := 2) hx hb dX10_fetch_51 (by decide) ?_
    refine lv_iadd hx hb dX10_fetch_52 ?_
    obtain ⟨hg5, h⟩ := rk_gd h
    refine va_iald hx hb hV.1 hR 4 0 rfl rfl hg5 dX10_fetch_53 ?_
    refine lv_aload_n hx hb dX10_fetch_54 rfl (lv_at hl 0 rfl) ?_
    refine va_get (D := D) (ci := 9) (v := .ref a_this_entryOf) (C := RX10) (T := TX10) (N := 17) hx hb htc inX10 hown hV.1 hP 0 rfl rfl 15 (by decide) (htc _ w_4_13) (fun _ h9 => h9) rfl dX10_fetch_55 ?_
    refine lv_iconst (v := 4) hx hb dX10_fetch_58 (by decide) ?_
    refine lv_iload_n hx hb dX10_fetch_59 rfl (lv_at hl 1 rfl) ?_
    refine lv_imul hx hb dX10_fetch_60 ?_
    refine lv_iconst (v := 3) hx hb dX10_fetch_61 (by decide) ?_
    refine lv_iadd hx hb dX10_fetch_62 ?_
    obtain ⟨hg6, h⟩ := rk_gd h
    refine va_iald hx hb hV.1 hR 4 0 rfl rfl hg6 dX10_fetch_63 ?_
    obtain ⟨r_64, hc_64, h⟩ := rk_bd h
    refine rk_v (wr := [(a_this_buffer, .inl (cI, 60, .inl c_this_buffer)), (a_this_left, .inl (cI, 4, .inl c_this_left)), (a_this_made, .inl (cI, 60, .inl c_this_made)), (a_this_stackLong, .inl (cJ, 64, .inr (.inl c_this_stackLong))), (a_this_stackOne, .inl (cI, 64, .inl c_this_stackOne))]) (va_runV (C := RX10) (As := [.int (c_this_entryFamily v_p1.toNatClampNeg), .int (c_this_entryOf ((4 : Int32) * v_p1).toNatClampNeg), .int (c_this_entryOf (((4 : Int32) * v_p1) + (1 : Int32)).toNatClampNeg), .int (c_this_entryOf (((4 : Int32) * v_p1) + (2 : Int32)).toNatClampNeg), .int (c_this_entryOf (((4 : Int32) * v_p1) + (3 : Int32)).toNatClampNeg)]) (rest := []) hF (mtX10_turnsTo l D cI cJ cO PL _ a_this a_this_chosen a_this_factorial a_this_catalan a_this_parted a_this_closed f_this_now a_this_of a_this_buffer a_this_made a_this_stackOne a_this_stackOther a_this_stackLong a_this_left f_this_entryMany a_this_entryFamily a_this_entryOf a_this_entryRank c_this_of (c_this_entryFamily v_p1.toNatClampNeg) (c_this_entryOf ((4 : Int32) * v_p1).toNatClampNeg) (c_this_entryOf (((4 : Int32) * v_p1) + (1 : Int32)).toNatClampNeg) (c_this_entryOf (((4 : Int32) * v_p1) + (2 : Int32)).toNatClampNeg) (c_this_entryOf (((4 : Int32) * v_p1) + (3 : Int32)).toNatClampNeg) r_64 hc_64) (cwV 5 htc (rk_gV w_4_63 w_4_65 ws_36 w_1_7 w_4_66) rfl rfl rfl (by decide +kernel) ⟨(Nat.le_of_ble_eq_true rfl), (Nat.le_of_ble_eq_true rfl)⟩) (rk_preV (va_recv hV.1 hP (ci := 9) (q0 := 0) rfl rfl) (rk_preS hP hD hS hR hn hPL hnl hV [0, 4] [] rfl (by decide) rfl (by decide))) rfl rfl hl.1 rfl (lv_room (Nat.le_of_ble_eq_true rfl)) dX10_fetch_64 ⟨(Nat.le_of_ble_eq_true rfl), (Nat.le_of_ble_eq_true rfl)⟩) hP hD hS hA hR0 hn [0, 4] [1, 2, 3, 5, 6] rfl rfl (by decide) (by decide) (fun H locs hP hD hS hR => ?_)
    have hP : va_P D vwCl [(a_this_buffer, .inl (cI, 60, .inl c_this_buffer)), (a_this_left, .inl (cI, 4, .inl c_this_left)), (a_this_made, .inl (cI, 60, .inl c_this_made)), (a_this_stackLong, .inl (cJ, 64, .inr (.inl c_this_stackLong))), (a_this_stackOne, .inl (cI, 64, .inl c_this_stackOne)), (a_this, .inr (9, [.ref a_this_chosen, .ref a_this_factorial, .ref a_this_catalan, .ref a_this_parted, .ref a_this_closed, .int r_64.1, .ref a_this_of, .ref a_this_buffer, .ref a_this_made, .ref a_this_stackOne, .ref a_this_stackOther, .ref a_this_stackLong, .ref a_this_left, .int f_this_entryMany, .ref a_this_entryFamily, .ref a_this_entryOf, .ref a_this_entryRank])), (a_this_of, .inl (cI, 4, .inl r_64.2))] H := hP
    have hD : va_D A [(a_this_buffer, .inl (cI, 60, .inl c_this_buffer)), (a_this_left, .inl (cI, 4, .inl c_this_left)), (a_this_made, .inl (cI, 60, .inl c_this_made)), (a_this_stackLong, .inl (cJ, 64, .inr (.inl c_this_stackLong))), (a_this_stackOne, .inl (cI, 64, .inl c_this_stackOne)), (a_this, .inr (9, [.ref a_this_chosen, .ref a_this_factorial, .ref a_this_catalan, .ref a_this_parted, .ref a_this_closed, .int r_64.1, .ref a_this_of, .ref a_this_buffer, .ref a_this_made, .ref a_this_stackOne, .ref a_this_stackOther, .ref a_this_stackLong, .ref a_this_left, .int f_this_entryMany, .ref a_this_entryFamily, .ref a_this_entryOf, .ref a_this_entryRank])), (a_this_of, .inl (cI, 4, .inl r_64.2))] := hD
    refine lv_aload_n hx hb dX10_fetch_67 rfl (lv_at hl 0 rfl) ?_
    refine lv_aload_n hx hb dX10_fetch_68 rfl (lv_at hl 0 rfl) ?_
    refine va_get (D := D) (ci := 9) (v := .ref a_this_entryRank) (C := RX10) (T := TX10) (N := 17) hx hb htc inX10 hown hV.1 hP 5 rfl rfl 16 (by decide) (htc _ w_4_14) (fun _ h9 => h9) rfl dX10_fetch_69 ?_
    refine lv_iload_n hx hb dX10_fetch_72 rfl (lv_at hl 1 rfl) ?_
    refine va_lald hx hb hV.1 hR 5 1 rfl rfl hg2 dX10_fetch_73 ?_
    obtain ⟨r_74, hc_74, h⟩ := rk_bd h
    refine rk_v (wr := [(a_this_buffer, .inl (cI, 60, .inl c_this_buffer)), (a_this, .inr (9, [.ref a_this_chosen, .ref a_this_factorial, .ref a_this_catalan, .ref a_this_parted, .ref a_this_closed, .int r_64.1, .ref a_this_of, .ref a_this_buffer, .ref a_this_made, .ref a_this_stackOne, .ref a_this_stackOther, .ref a_this_stackLong, .ref a_this_left, .int f_this_entryMany, .ref a_this_entryFamily, .ref a_this_entryOf, .ref a_this_entryRank])), (a_this_of, .inl (cI, 4, .inl r_64.2))]) (va_runV (C := RX10) (As := [.long (c_this_entryRank v_p1.toNatClampNeg)]) (rest := []) hF (mtX10_makes l D cI cJ cO PL _ a_this a_this_chosen a_this_factorial a_this_catalan a_this_parted a_this_closed r_64.1 a_this_of a_this_buffer a_this_made a_this_stackOne a_this_stackOther a_this_stackLong a_this_left f_this_entryMany a_this_entryFamily a_this_entryOf a_this_entryRank c_this_left c_this_made c_this_stackLong c_this_stackOne c_this_catalan c_this_chosen c_this_closed r_64.2 c_this_parted (c_this_entryRank v_p1.toNatClampNeg) r_74 hc_74) (cwV 1 htc (rk_gV w_4_67 w_4_69 ws_37 w_1_7 w_4_70) rfl rfl rfl (by decide +kernel) ⟨(Nat.le_of_ble_eq_true rfl), (Nat.le_of_ble_eq_true rfl)⟩) (rk_preV (va_recv hV.1 hP (ci := 9) (q0 := 5) rfl rfl) (rk_preS hP hD hS hR hn hPL hnl hV [1, 2, 3, 4] [(true, 5), (false, 0), (false, 1), (false, 2), (true, 6), (false, 6)] rfl (by decide) rfl (by decide))) rfl rfl hl.1 rfl (lv_room (Nat.le_of_ble_eq_true rfl)) dX10_fetch_74 ⟨(Nat.le_of_ble_eq_true rfl), (Nat.le_of_ble_eq_true rfl)⟩) hP hD hS hA hR0 hn [1, 2, 3, 4] [0, 5, 6] rfl rfl (by decide) (by decide) (fun H locs hP hD hS hR => ?_)
    have hP : va_P D vwCl [(a_this_buffer, .inl (cI, 60, .inl c_this_buffer)), (a_this, .inr (9, [.ref a_this_chosen, .ref a_this_factorial, .ref a_this_catalan, .ref a_this_parted, .ref a_this_closed, .int r_64.1, .ref a_this_of, .ref a_this_buffer, .ref a_this_made, .ref a_this_stackOne, .ref a_this_stackOther, .ref a_this_stackLong, .ref a_this_left, .int f_this_entryMany, .ref a_this_entryFamily, .ref a_this_entryOf, .ref a_this_entryRank])), (a_this_of, .inl (cI, 4, .inl r_64.2)), (a_this_left, .inl (cI, 4, .inl r_74.1)), (a_this_made, .inl (cI, 60, .inl r_74.2.1)), (a_this_stackLong, .inl (cJ, 64, .inr (.inl r_74.2.2.1))), (a_this_stackOne, .inl (cI, 64, .inl r_74.2.2.2))] H := hP
    have hD : va_D A [(a_this_buffer, .inl (cI, 60, .inl c_this_buffer)), (a_this, .inr (9, [.ref a_this_chosen, .ref a_this_factorial, .ref a_this_catalan, .ref a_this_parted, .ref a_this_closed, .int r_64.1, .ref a_this_of, .ref a_this_buffer, .ref a_this_made, .ref a_this_stackOne, .ref a_this_stackOther, .ref a_this_stackLong, .ref a_this_left, .int f_this_entryMany, .ref a_this_entryFamily, .ref a_this_entryOf, .ref a_this_entryRank])), (a_this_of, .inl (cI, 4, .inl r_64.2)), (a_this_left, .inl (cI, 4, .inl r_74.1)), (a_this_made, .inl (cI, 60, .inl r_74.2.1)), (a_this_stackLong, .inl (cJ, 64, .inr (.inl r_74.2.2.1))), (a_this_stackOne, .inl (cI, 64, .inl r_74.2.2.2))] := hD
    refine lv_aload_n hx hb dX10_fetch_77 rfl (lv_at hl 0 rfl) ?_
    obtain ⟨r_78, hc_78, h⟩ := rk_bd h
    refine rk_i (wr := [(a_this, .inr (9, [.ref a_this_chosen, .ref a_this_factorial, .ref a_this_catalan, .ref a_this_parted, .ref a_this_closed, .int r_64.1, .ref a_this_of, .ref a_this_buffer, .ref a_this_made, .ref a_this_stackOne, .ref a_this_stackOther, .ref a_this_stackLong, .ref a_this_left, .int f_this_entryMany, .ref a_this_entryFamily, .ref a_this_entryOf, .ref a_this_entryRank])), (a_this_of, .inl (cI, 4, .inl r_64.2)), (a_this_left, .inl (cI, 4, .inl r_74.1)), (a_this_made, .inl (cI, 60, .inl r_74.2.1)), (a_this_stackLong, .inl (cJ, 64, .inr (.inl r_74.2.2.1))), (a_this_stackOne, .inl (cI, 64, .inl r_74.2.2.2))]) (va_runV (C := RX10) (As := []) (rest := []) hF (mtX10_stores l D cI cJ cO PL _ a_this a_this_chosen a_this_factorial a_this_catalan a_this_parted a_this_closed r_64.1 a_this_of a_this_buffer a_this_made a_this_stackOne a_this_stackOther a_this_stackLong a_this_left f_this_entryMany a_this_entryFamily a_this_entryOf a_this_entryRank c_this_buffer r_74.2.1 r_64.2 r_78 hc_78) (cwV 0 htc (rk_gV w_4_123 w_4_125 ws_51 w_1_7 w_4_126) rfl rfl rfl (by decide +kernel) ⟨(Nat.le_of_ble_eq_true rfl), (Nat.le_of_ble_eq_true rfl)⟩) (rk_preV (va_recv hV.1 hP (ci := 9) (q0 := 1) rfl rfl) (rk_preS hP hD hS hR hn hPL hnl hV [0] [(true, 1), (true, 4), (true, 2)] rfl (by decide) rfl (by decide))) rfl rfl hl.1 rfl (lv_room (Nat.le_of_ble_eq_true rfl)) dX10_fetch_78 ⟨(Nat.le_of_ble_eq_true rfl), (Nat.le_of_ble_eq_true rfl)⟩) hP hD hS hA hR0 hn [0] [1, 2, 3, 4, 5, 6] rfl rfl (by decide) (by decide) (fun H locs hP hD hS hR => ?_)
    have hP : va_P D vwCl [(a_this, .inr (9, [.ref a_this_chosen, .ref a_this_factorial, .ref a_this_catalan, .ref a_this_parted, .ref a_this_closed, .int r_64.1, .ref a_this_of, .ref a_this_buffer, .ref a_this_made, .ref a_this_stackOne, .ref a_this_stackOther, .ref a_this_stackLong, .ref a_this_left, .int f_this_entryMany, .ref a_this_entryFamily, .ref a_this_entryOf, .ref a_this_entryRank])), (a_this_of, .inl (cI, 4, .inl r_64.2)), (a_this_left, .inl (cI, 4, .inl r_74.1)), (a_this_made, .inl (cI, 60, .inl r_74.2.1)), (a_this_stackLong, .inl (cJ, 64, .inr (.inl r_74.2.2.1))), (a_this_stackOne, .inl (cI, 64, .inl r_74.2.2.2)), (a_this_buffer, .inl (cI, 60, .inl r_78.2))] H := hP
    have hD : va_D A [(a_this, .inr (9, [.ref a_this_chosen, .ref a_this_factorial, .ref a_this_catalan, .ref a_this_parted, .ref a_this_closed, .int r_64.1, .ref a_this_of, .ref a_this_buffer, .ref a_this_made, .ref a_this_stackOne, .ref a_this_stackOther, .ref a_this_stackLong, .ref a_this_left, .int f_this_entryMany, .ref a_this_entryFamily, .ref a_this_entryOf, .ref a_this_entryRank])), (a_this_of, .inl (cI, 4, .inl r_64.2)), (a_this_left, .inl (cI, 4, .inl r_74.1)), (a_this_made, .inl (cI, 60, .inl r_74.2.1)), (a_this_stackLong, .inl (cJ, 64, .inr (.inl r_74.2.2.1))), (a_this_stackOne, .inl (cI, 64, .inl r_74.2.2.2)), (a_this_buffer, .inl (cI, 60, .inl r_78.2))] := hD
    refine lv_pop hx hb dX10_fetch_81 rfl ?_
    refine lv_aload_n hx hb dX10_fetch_82 rfl (lv_at hl 0 rfl) ?_
    refine va_get (D := D) (ci := 9) (v := .int r_64.1) (C := RX10) (T := TX10) (N := 17) hx hb htc inX10 hown hV.1 hP 0 rfl rfl 5 (by decide) (htc _ w_4_3) (fun _ h9 => h9) rfl dX10_fetch_83 ?_
    exact hret (r_64.1, r_64.1, r_78.2, r_74.1, r_74.2.1, r_64.2, r_74.2.2.1, r_74.2.2.2) _ _ _ _ h dX10_fetch_86 (hP.sub [0, 6, 2, 3, 1, 4, 5] rfl) (hD.sub [0, 6, 2, 3, 1, 4, 5] (by decide) rfl) hS
  · have h := rk_nnif hc1 h
    refine lv_bipush (v := (-5)) hx hb dX10_fetch_16 (by decide) ?_
    exact hret ((-5 : Int32), f_this_now, c_this_buffer, c_this_left, c_this_made, c_this_of, c_this_stackLong, c_this_stackOne) _ _ _ _ h dX10_fetch_18 hP hD hS
set_option maxHeartbeats 4000000 in
set_option maxRecDepth 100000 in
theorem mtX10_clear (l : Launch) (D : va_G) (cI cJ cO : ClassId) (PL : va_W) (sz : Nat) (a_this : Nat) (a_this_chosen : Nat) (a_this_factorial : Nat) (a_this_catalan : Nat) (a_this_parted : Nat) (a_this_closed : Nat) (f_this_now : Int32) (a_this_of : Nat) (a_this_buffer : Nat) (a_this_made : Nat) (a_this_stackOne : Nat) (a_this_stackOther : Nat) (a_this_stackLong : Nat) (a_this_left : Nat) (f_this_entryMany : Int32) (a_this_entryFamily : Nat) (a_this_entryOf : Nat) (a_this_entryRank : Nat) (r0 : Int32 × Int32) (h : fX10_clear f_this_entryMany = some r0) : Met l yX10_clear (rk_w yX10_clear cX10_clear 2 (some .int)) rmX10_clear (va_Pc [.ref a_this] (rk_B D (rk_TY cI cJ cO) [(a_this, .inr (9, [.ref a_this_chosen, .ref a_this_factorial, .ref a_this_catalan, .ref a_this_parted, .ref a_this_closed, .int f_this_now, .ref a_this_of, .ref a_this_buffer, .ref a_this_made, .ref a_this_stackOne, .ref a_this_stackOther, .ref a_this_stackLong, .ref a_this_left, .int f_this_entryMany, .ref a_this_entryFamily, .ref a_this_entryOf, .ref a_this_entryRank]))] [] PL sz)) (rk_Qi r0.1 D [(a_this, .inr (9, [.ref a_this_chosen, .ref a_this_factorial, .ref a_this_catalan, .ref a_this_parted, .ref a_this_closed, .int f_this_now, .ref a_this_of, .ref a_this_buffer, .ref a_this_made, .ref a_this_stackOne, .ref a_this_stackOther, .ref a_this_stackLong, .ref a_this_left, .int r0.2, .ref a_this_entryFamily, .ref a_this_entryOf, .ref a_this_entryRank]))] [(a_this, .inr (9, [.ref a_this_chosen, .ref a_this_factorial, .ref a_this_catalan, .ref a_this_parted, .ref a_this_closed, .int f_this_now, .ref a_this_of, .ref a_this_buffer, .ref a_this_made, .ref a_this_stackOne, .ref a_this_stackOther, .ref a_this_stackLong, .ref a_this_left, .int f_this_entryMany, .ref a_this_entryFamily, .ref a_this_entryOf, .ref a_this_entryRank]))] sz) 0 0 (va_A [(a_this, .inr (9, [.ref a_this_chosen, .ref a_this_factorial, .ref a_this_catalan, .ref a_this_parted, .ref a_this_closed, .int f_this_now, .ref a_this_of, .ref a_this_buffer, .ref a_this_made, .ref a_this_stackOne, .ref a_this_stackOther, .ref a_this_stackLong, .ref a_this_left, .int f_this_entryMany, .ref a_this_entryFamily, .ref a_this_entryOf, .ref a_this_entryRank]))] sz) := by
  refine rk_meti h (fun x : Int32 × Int32 => x.1) (fun x => [(a_this, .inr (9, [.ref a_this_chosen, .ref a_this_factorial, .ref a_this_catalan, .ref a_this_parted, .ref a_this_closed, .int f_this_now, .ref a_this_of, .ref a_this_buffer, .ref a_this_made, .ref a_this_stackOne, .ref a_this_stackOther, .ref a_this_stackLong, .ref a_this_left, .int x.2, .ref a_this_entryFamily, .ref a_this_entryOf, .ref a_this_entryRank]))]) (by decide) (Nat.le_of_ble_eq_true rfl) ?_
  intro p e s m args below meth c A ls Q hret hname hF hP hD hA hV hR0 hn hPL hnl hl h hS
  have hx := hF.1
  have hb := hF.2.1
  have hml := hF.2.2.1
  have hown : s.vm.findClass RX10 = some m.cls := hF.2.2.2.1
  have htc := hF.2.2.2.2
  have hP : va_P D vwCl [(a_this, .inr (9, [.ref a_this_chosen, .ref a_this_factorial, .ref a_this_catalan, .ref a_this_parted, .ref a_this_closed, .int f_this_now, .ref a_this_of, .ref a_this_buffer, .ref a_this_made, .ref a_this_stackOne, .ref a_this_stackOther, .ref a_this_stackLong, .ref a_this_left, .int f_this_entryMany, .ref a_this_entryFamily, .ref a_this_entryOf, .ref a_this_entryRank]))] s.heap := hP
  have hD : va_D A [(a_this, .inr (9, [.ref a_this_chosen, .ref a_this_factorial, .ref a_this_catalan, .ref a_this_parted, .ref a_this_closed, .int f_this_now, .ref a_this_of, .ref a_this_buffer, .ref a_this_made, .ref a_this_stackOne, .ref a_this_stackOther, .ref a_this_stackLong, .ref a_this_left, .int f_this_entryMany, .ref a_this_entryFamily, .ref a_this_entryOf, .ref a_this_entryRank]))] := hD
  have hR0 : va_P D vwCl [] s.heap := hR0
  have hR := hR0
  have hl : lv_has ls 2 [(0, .ref a_this)] := hl
  unfold fX10_clear at h
  refine lv_aload_n hx hb dX10_clear_0 rfl (lv_at hl 0 rfl) ?_
  refine va_get (D := D) (ci := 9) (v := .int f_this_entryMany) (C := RX10) (T := TX10) (N := 17) hx hb htc inX10 hown hV.1 hP 0 rfl rfl 13 (by decide) (htc _ w_4_11) (fun _ h9 => h9) rfl dX10_clear_1 ?_
  refine lv_istore_n (lv' := [(1, .int f_this_entryMany), (0, .ref a_this)]) hx hb dX10_clear_4 rfl hl (by decide) rfl (fun ls hl => ?_)
  refine lv_aload_n hx hb dX10_clear_5 rfl (lv_at hl 1 rfl) ?_
  refine lv_iconst (v := 0) hx hb dX10_clear_6 (by decide) ?_
  refine va_put (D := D) (ci := 9) (v := .int (0 : Int32)) (ty := .int) (C := RX10) (T := TX10) (N := 17) hx hb htc inX10 tyX10 tyX10_ok nmX10 hown hV.1 hP hD hS 0 rfl rfl 13 (by decide) (htc _ w_4_11) (fun _ h9 => h9) rfl (by decide +kernel) rfl rfl (Nat.le_of_ble_eq_true rfl) dX10_clear_7 (fun H locs hP hD hS => ?_)
  have hP : va_P D vwCl [(a_this, .inr (9, [.ref a_this_chosen, .ref a_this_factorial, .ref a_this_catalan, .ref a_this_parted, .ref a_this_closed, .int f_this_now, .ref a_this_of, .ref a_this_buffer, .ref a_this_made, .ref a_this_stackOne, .ref a_this_stackOther, .ref a_this_stackLong, .ref a_this_left, .int (0 : Int32), .ref a_this_entryFamily, .ref a_this_entryOf, .ref a_this_entryRank]))] H := hP
  have hD : va_D A [(a_this, .inr (9, [.ref a_this_chosen, .ref a_this_factorial, .ref a_this_catalan, .ref a_this_parted, .ref a_this_closed, .int f_this_now, .ref a_this_of, .ref a_this_buffer, .ref a_this_made, .ref a_this_stackOne, .ref a_this_stackOther, .ref a_this_stackLong, .ref a_this_left, .int (0 : Int32), .ref a_this_entryFamily, .ref a_this_entryOf, .ref a_this_entryRank]))] := hD
  refine lv_iload_n hx hb dX10_clear_10 rfl (lv_at hl 0 rfl) ?_
  exact hret (f_this_entryMany, (0 : Int32)) _ _ _ _ h dX10_clear_11 hP hD hS
set_option maxHeartbeats 4000000 in
set_option maxRecDepth 100000 in
theorem mtX10_entries (l : Launch) (D : va_G) (cI cJ cO : ClassId) (PL : va_W) (sz : Nat) (a_this : Nat) (a_this_chosen : Nat) (a_this_factorial : Nat) (a_this_catalan : Nat) (a_this_parted : Nat) (a_this_closed : Nat) (f_this_now : Int32) (a_this_of : Nat) (a_this_buffer : Nat) (a_this_made : Nat) (a_this_stackOne : Nat) (a_this_stackOther : Nat) (a_this_stackLong : Nat) (a_this_left : Nat) (f_this_entryMany : Int32) (a_this_entryFamily : Nat) (a_this_entryOf : Nat) (a_this_entryRank : Nat) (r0 : Int32) (h : fX10_entries f_this_entryMany = some r0) : Met l yX10_entries (rk_w yX10_entries cX10_entries 1 (some .int)) rmX10_entries (va_Pc [.ref a_this] (rk_B D (rk_TY cI cJ cO) [] [(a_this, .inr (9, [.ref a_this_chosen, .ref a_this_factorial, .ref a_this_catalan, .ref a_this_parted, .ref a_this_closed, .int f_this_now, .ref a_this_of, .ref a_this_buffer, .ref a_this_made, .ref a_this_stackOne, .ref a_this_stackOther, .ref a_this_stackLong, .ref a_this_left, .int f_this_entryMany, .ref a_this_entryFamily, .ref a_this_entryOf, .ref a_this_entryRank]))] PL sz)) (rk_Qi r0 D [] [] sz) 0 0 (va_A [] sz) := by
  refine rk_meti h (fun x : Int32 => x) (fun x => []) (by decide) (Nat.le_of_ble_eq_true rfl) ?_
  intro p e s m args below meth c A ls Q hret hname hF hP hD hA hV hR0 hn hPL hnl hl h hS
  have hx := hF.1
  have hb := hF.2.1
  have hml := hF.2.2.1
  have hown : s.vm.findClass RX10 = some m.cls := hF.2.2.2.1
  have htc := hF.2.2.2.2
  have hP : va_P D vwCl [] s.heap := hP
  have hD : va_D A [] := hD
  have hR0 : va_P D vwCl [(a_this, .inr (9, [.ref a_this_chosen, .ref a_this_factorial, .ref a_this_catalan, .ref a_this_parted, .ref a_this_closed, .int f_this_now, .ref a_this_of, .ref a_this_buffer, .ref a_this_made, .ref a_this_stackOne, .ref a_this_stackOther, .ref a_this_stackLong, .ref a_this_left, .int f_this_entryMany, .ref a_this_entryFamily, .ref a_this_entryOf, .ref a_this_entryRank]))] s.heap := hR0
  have hR := hR0
  have hl : lv_has ls 1 [(0, .ref a_this)] := hl
  unfold fX10_entries at h
  refine lv_aload_n hx hb dX10_entries_0 rfl (lv_at hl 0 rfl) ?_
  refine va_get (D := D) (ci := 9) (v := .int f_this_entryMany) (C := RX10) (T := TX10) (N := 17) hx hb htc inX10 hown hV.1 hR 0 rfl rfl 13 (by decide) (htc _ w_4_11) (fun _ h9 => h9) rfl dX10_entries_1 ?_
  exact hret f_this_entryMany _ _ _ _ h dX10_entries_4 hP hD hS
set_option maxHeartbeats 4000000 in
set_option maxRecDepth 100000 in
theorem mtX10_total (l : Launch) (D : va_G) (cI cJ cO : ClassId) (PL : va_W) (sz : Nat) (a_this : Nat) (a_this_chosen : Nat) (a_this_factorial : Nat) (a_this_catalan : Nat) (a_this_parted : Nat) (a_this_closed : Nat) (f_this_now : Int32) (a_this_of : Nat) (a_this_buffer : Nat) (a_this_made : Nat) (a_this_stackOne : Nat) (a_this_stackOther : Nat) (a_this_stackLong : Nat) (a_this_left : Nat) (f_this_entryMany : Int32) (a_this_entryFamily : Nat) (a_this_entryOf : Nat) (a_this_entryRank : Nat) (c_this_catalan : Nat → Int64) (c_this_chosen : Nat → Int64) (c_this_closed : Nat → Int64) (c_this_entryFamily : Nat → Int32) (c_this_entryOf : Nat → Int32) (c_this_factorial : Nat → Int64) (c_this_parted : Nat → Int64) (r0 : Int64) (h : fX10_total f_this_entryMany c_this_catalan c_this_chosen c_this_closed c_this_entryFamily c_this_entryOf c_this_factorial c_this_parted = some r0) : Met l yX10_total (rk_w yX10_total cX10_total 1 (some .long)) rmX10_total (va_Pc [.ref a_this] (rk_B D (rk_TY cI cJ cO) [] [(a_this, .inr (9, [.ref a_this_chosen, .ref a_this_factorial, .ref a_this_catalan, .ref a_this_parted, .ref a_this_closed, .int f_this_now, .ref a_this_of, .ref a_this_buffer, .ref a_this_made, .ref a_this_stackOne, .ref a_this_stackOther, .ref a_this_stackLong, .ref a_this_left, .int f_this_entryMany, .ref a_this_entryFamily, .ref a_this_entryOf, .ref a_this_entryRank])), (a_this_catalan, .inl (cJ, 31, .inr (.inl c_this_catalan))), (a_this_chosen, .inl (cJ, 3721, .inr (.inl c_this_chosen))), (a_this_closed, .inl (cJ, 1722, .inr (.inl c_this_closed))), (a_this_entryFamily, .inl (cI, 10, .inl c_this_entryFamily)), (a_this_entryOf, .inl (cI, 40, .inl c_this_entryOf)), (a_this_factorial, .inl (cJ, 21, .inr (.inl c_this_factorial))), (a_this_parted, .inl (cJ, 3721, .inr (.inl c_this_parted)))] PL sz)) (rk_Ql r0 D [] [] sz) 0 0 (va_A [] sz) := by
  refine rk_metl h (fun x : Int64 => x) (fun x => []) (by decide) (Nat.le_of_ble_eq_true rfl) ?_
  intro p e s m args below meth c A ls Q hret hname hF hP hD hA hV hR0 hn hPL hnl hl h hS
  have hx := hF.1
  have hb := hF.2.1
  have hml := hF.2.2.1
  have hown : s.vm.findClass RX10 = some m.cls := hF.2.2.2.1
  have htc := hF.2.2.2.2
  have hP : va_P D vwCl [] s.heap := hP
  have hD : va_D A [] := hD
  have hR0 : va_P D vwCl [(a_this, .inr (9, [.ref a_this_chosen, .ref a_this_factorial, .ref a_this_catalan, .ref a_this_parted, .ref a_this_closed, .int f_this_now, .ref a_this_of, .ref a_this_buffer, .ref a_this_made, .ref a_this_stackOne, .ref a_this_stackOther, .ref a_this_stackLong, .ref a_this_left, .int f_this_entryMany, .ref a_this_entryFamily, .ref a_this_entryOf, .ref a_this_entryRank])), (a_this_catalan, .inl (cJ, 31, .inr (.inl c_this_catalan))), (a_this_chosen, .inl (cJ, 3721, .inr (.inl c_this_chosen))), (a_this_closed, .inl (cJ, 1722, .inr (.inl c_this_closed))), (a_this_entryFamily, .inl (cI, 10, .inl c_this_entryFamily)), (a_this_entryOf, .inl (cI, 40, .inl c_this_entryOf)), (a_this_factorial, .inl (cJ, 21, .inr (.inl c_this_factorial))), (a_this_parted, .inl (cJ, 3721, .inr (.inl c_this_parted)))] s.heap := hR0
  have hR := hR0
  have hl : lv_has ls 1 [(0, .ref a_this)] := hl
  unfold fX10_total at h
  refine lv_aload_n hx hb dX10_total_0 rfl (lv_at hl 0 rfl) ?_
  obtain ⟨r_1, hc_1, h⟩ := rk_bd h
  refine rk_l (wr := []) (va_runV (C := RX10) (As := []) (rest := []) hF (mtX10_totalNow l D cI cJ cO PL _ a_this a_this_chosen a_this_factorial a_this_catalan a_this_parted a_this_closed f_this_now a_this_of a_this_buffer a_this_made a_this_stackOne a_this_stackOther a_this_stackLong a_this_left f_this_entryMany a_this_entryFamily a_this_entryOf a_this_entryRank c_this_catalan c_this_chosen c_this_closed c_this_entryFamily c_this_entryOf c_this_factorial c_this_parted r_1 hc_1) (cwV 0 htc (rk_gV w_5_83 w_5_85 ws_77 w_1_7 w_5_86) rfl rfl rfl (by decide +kernel) ⟨(Nat.le_of_ble_eq_true rfl), (Nat.le_of_ble_eq_true rfl)⟩) (rk_preV (va_recv hV.1 hR (ci := 9) (q0 := 0) rfl rfl) (rk_preS hP hD hS hR hn hPL hnl hV [] [(false, 0), (false, 1), (false, 2), (false, 3), (false, 4), (false, 5), (false, 6), (false, 7)] rfl (by decide) rfl (by decide))) rfl rfl hl.1 rfl (lv_room (Nat.le_of_ble_eq_true rfl)) dX10_total_1 ⟨(Nat.le_of_ble_eq_true rfl), (Nat.le_of_ble_eq_true rfl)⟩) hP hD hS hA hR0 hn [] [] rfl rfl (by decide) (by decide) (fun H locs hP hD hS hR => ?_)
  have hP : va_P D vwCl [] H := hP
  have hD : va_D A [] := hD
  exact hret r_1 _ _ _ _ h dX10_total_4 hP hD hS
set_option maxHeartbeats 4000000 in
set_option maxRecDepth 100000 in
theorem mtX10_code (l : Launch) (D : va_G) (cI cJ cO : ClassId) (PL : va_W) (sz : Nat) (a_this : Nat) (a_this_chosen : Nat) (a_this_factorial : Nat) (a_this_catalan : Nat) (a_this_parted : Nat) (a_this_closed : Nat) (f_this_now : Int32) (a_this_of : Nat) (a_this_buffer : Nat) (a_this_made : Nat) (a_this_stackOne : Nat) (a_this_stackOther : Nat) (a_this_stackLong : Nat) (a_this_left : Nat) (f_this_entryMany : Int32) (a_this_entryFamily : Nat) (a_this_entryOf : Nat) (a_this_entryRank : Nat) (c_this_catalan : Nat → Int64) (c_this_chosen : Nat → Int64) (c_this_closed : Nat → Int64) (c_this_entryFamily : Nat → Int32) (c_this_entryOf : Nat → Int32) (c_this_entryRank : Nat → Int64) (c_this_factorial : Nat → Int64) (c_this_parted : Nat → Int64) (r0 : Int64) (h : fX10_code f_this_entryMany c_this_catalan c_this_chosen c_this_closed c_this_entryFamily c_this_entryOf c_this_entryRank c_this_factorial c_this_parted = some r0) : Met l yX10_code (rk_w yX10_code cX10_code 4 (some .long)) rmX10_code (va_Pc [.ref a_this] (rk_B D (rk_TY cI cJ cO) [] [(a_this, .inr (9, [.ref a_this_chosen, .ref a_this_factorial, .ref a_this_catalan, .ref a_this_parted, .ref a_this_closed, .int f_this_now, .ref a_this_of, .ref a_this_buffer, .ref a_this_made, .ref a_this_stackOne, .ref a_this_stackOther, .ref a_this_stackLong, .ref a_this_left, .int f_this_entryMany, .ref a_this_entryFamily, .ref a_this_entryOf, .ref a_this_entryRank])), (a_this_catalan, .inl (cJ, 31, .inr (.inl c_this_catalan))), (a_this_chosen, .inl (cJ, 3721, .inr (.inl c_this_chosen))), (a_this_closed, .inl (cJ, 1722, .inr (.inl c_this_closed))), (a_this_entryFamily, .inl (cI, 10, .inl c_this_entryFamily)), (a_this_entryOf, .inl (cI, 40, .inl c_this_entryOf)), (a_this_entryRank, .inl (cJ, 10, .inr (.inl c_this_entryRank))), (a_this_factorial, .inl (cJ, 21, .inr (.inl c_this_factorial))), (a_this_parted, .inl (cJ, 3721, .inr (.inl c_this_parted)))] PL sz)) (rk_Ql r0 D [] [] sz) 0 0 (va_A [] sz) := by
  refine rk_metl h (fun x : Int64 => x) (fun x => []) (by decide) (Nat.le_of_ble_eq_true rfl) ?_
  intro p e s m args below meth c A ls Q hret hname hF hP hD hA hV hR0 hn hPL hnl hl h hS
  have hx := hF.1
  have hb := hF.2.1
  have hml := hF.2.2.1
  have hown : s.vm.findClass RX10 = some m.cls := hF.2.2.2.1
  have htc := hF.2.2.2.2
  have hP : va_P D vwCl [] s.heap := hP
  have hD : va_D A [] := hD
  have hR0 : va_P D vwCl [(a_this, .inr (9, [.ref a_this_chosen, .ref a_this_factorial, .ref a_this_catalan, .ref a_this_parted, .ref a_this_closed, .int f_this_now, .ref a_this_of, .ref a_this_buffer, .ref a_this_made, .ref a_this_stackOne, .ref a_this_stackOther, .ref a_this_stackLong, .ref a_this_left, .int f_this_entryMany, .ref a_this_entryFamily, .ref a_this_entryOf, .ref a_this_entryRank])), (a_this_catalan, .inl (cJ, 31, .inr (.inl c_this_catalan))), (a_this_chosen, .inl (cJ, 3721, .inr (.inl c_this_chosen))), (a_this_closed, .inl (cJ, 1722, .inr (.inl c_this_closed))), (a_this_entryFamily, .inl (cI, 10, .inl c_this_entryFamily)), (a_this_entryOf, .inl (cI, 40, .inl c_this_entryOf)), (a_this_entryRank, .inl (cJ, 10, .inr (.inl c_this_entryRank))), (a_this_factorial, .inl (cJ, 21, .inr (.inl c_this_factorial))), (a_this_parted, .inl (cJ, 3721, .inr (.inl c_this_parted)))] s.heap := hR0
  have hR := hR0
  have hl : lv_has ls 4 [(0, .ref a_this)] := hl
  unfold fX10_code at h
  refine lv_lconst (v := 0) hx hb dX10_code_0 (by decide) ?_
  refine lv_lstore_n (lv' := [(1, .long (0 : Int64)), (0, .ref a_this)]) hx hb dX10_code_1 rfl hl (by decide) rfl (fun ls hl => ?_)
  refine lv_iconst (v := 0) hx hb dX10_code_2 (by decide) ?_
  refine lv_istore_n (lv' := [(3, .int (0 : Int32)), (1, .long (0 : Int64)), (0, .ref a_this)]) hx hb dX10_code_3 rfl hl (by decide) rfl (fun ls hl => ?_)
  have L4 : ∀ (n4 : Nat) (b4_l1 : Int64) (b4_l3 : Int32), rk_it2 (fX10_code_L4 f_this_entryMany c_this_catalan c_this_chosen c_this_closed c_this_entryFamily c_this_entryOf c_this_entryRank c_this_factorial c_this_parted) n4 b4_l1 b4_l3 = some r0 → ∀ (H : Heap) (locs : List Loc), va_P D vwCl [] H → va_D A [] → va_S A s.heap H locs → ∀ (ls : Array Slot), lv_has ls 4 [(0, .ref a_this), (1, .long b4_l1), (3, .int b4_l3)] → W p l e rmX10_code s m args below meth c H locs 0 0 Q (F0 m 4 ls []) := by
    intro n4
    induction n4 with
    | zero => intro b4_l1 b4_l3 h; exact rk_no h
    | succ n4 ih4 =>
      intro b4_l1 b4_l3 h H locs hP hD hS ls hl
      have h : fX10_code_L4 f_this_entryMany c_this_catalan c_this_chosen c_this_closed c_this_entryFamily c_this_entryOf c_this_entryRank c_this_factorial c_this_parted (rk_it2 (fX10_code_L4 f_this_entryMany c_this_catalan c_this_chosen c_this_closed c_this_entryFamily c_this_entryOf c_this_entryRank c_this_factorial c_this_parted) n4) b4_l1 b4_l3 = some r0 := h
      unfold fX10_code_L4 at h
      have hR := rk_keep hR0 hn hS
      refine lv_iload_n hx hb dX10_code_4 rfl (lv_at hl 2 rfl) ?_
      refine lv_aload_n hx hb dX10_code_5 rfl (lv_at hl 0 rfl) ?_
      refine va_get (D := D) (ci := 9) (v := .int f_this_entryMany) (C := RX10) (T := TX10) (N := 17) hx hb htc inX10 hown hV.1 hR 0 rfl rfl 13 (by decide) (htc _ w_4_11) (fun _ h9 => h9) rfl dX10_code_6 ?_
      refine lv_icmp_ge (tgt := 33) hx hb dX10_code_9 (by decide) (fun hc1 => ?_) (fun hc1 => ?_)
      · have h := rk_if hc1 h
        refine lv_lload_n hx hb dX10_code_33 rfl (lv_at hl 1 rfl) ?_
        exact hret b4_l1 _ _ _ _ h dX10_code_34 hP hD hS
      · have h := rk_nif hc1 h
        refine lv_lload_n hx hb dX10_code_12 rfl (lv_at hl 1 rfl) ?_
        refine lv_aload_n hx hb dX10_code_13 rfl (lv_at hl 0 rfl) ?_
        refine lv_iload_n hx hb dX10_code_14 rfl (lv_at hl 2 rfl) ?_
        obtain ⟨r_15, hc_15, h⟩ := rk_bd h
        refine rk_l (wr := []) (va_runV (C := RX10) (As := [.int b4_l3]) (rest := [.long b4_l1]) hF (mtX10_entryCount l D cI cJ cO PL _ a_this a_this_chosen a_this_factorial a_this_catalan a_this_parted a_this_closed f_this_now a_this_of a_this_buffer a_this_made a_this_stackOne a_this_stackOther a_this_stackLong a_this_left f_this_entryMany a_this_entryFamily a_this_entryOf a_this_entryRank c_this_catalan c_this_chosen c_this_closed c_this_entryFamily c_this_entryOf c_this_factorial c_this_parted b4_l3 r_15 hc_15) (cwV 1 htc (rk_gV w_5_87 w_5_89 ws_78 w_1_7 w_5_90) rfl rfl rfl (by decide +kernel) ⟨(Nat.le_of_ble_eq_true rfl), (Nat.le_of_ble_eq_true rfl)⟩) (rk_preV (va_recv hV.1 hR (ci := 9) (q0 := 0) rfl rfl) (rk_preS hP hD hS hR hn hPL hnl hV [] [(false, 0), (false, 1), (false, 2), (false, 3), (false, 4), (false, 5), (false, 7), (false, 8)] rfl (by decide) rfl (by decide))) rfl rfl hl.1 rfl (lv_room (Nat.le_of_ble_eq_true rfl)) dX10_code_15 ⟨(Nat.le_of_ble_eq_true rfl), (Nat.le_of_ble_eq_true rfl)⟩) hP hD hS hA hR0 hn [] [] rfl rfl (by decide) (by decide) (fun H locs hP hD hS hR => ?_)
        have hP : va_P D vwCl [] H := hP
        have hD : va_D A [] := hD
        refine lv_lmul hx hb dX10_code_18 ?_
        refine lv_aload_n hx hb dX10_code_19 rfl (lv_at hl 0 rfl) ?_
        refine va_get (D := D) (ci := 9) (v := .ref a_this_entryRank) (C := RX10) (T := TX10) (N := 17) hx hb htc inX10 hown hV.1 hR 0 rfl rfl 16 (by decide) (htc _ w_4_14) (fun _ h9 => h9) rfl dX10_code_20 ?_
        refine lv_iload_n hx hb dX10_code_23 rfl (lv_at hl 2 rfl) ?_
        obtain ⟨hg2, h⟩ := rk_gd h
        refine va_lald hx hb hV.1 hR 6 1 rfl rfl hg2 dX10_code_24 ?_
        refine lv_ladd hx hb dX10_code_25 ?_
        refine lv_lstore_n (lv' := [(1, .long ((b4_l1 * r_15) + (c_this_entryRank b4_l3.toNatClampNeg))), (0, .ref a_this), (3, .int b4_l3)]) hx hb dX10_code_26 rfl hl (by decide) rfl (fun ls hl => ?_)
        refine lv_iinc (v := (b4_l3 + 1)) (lv' := [(3, .int (b4_l3 + 1)), (1, .long ((b4_l1 * r_15) + (c_this_entryRank b4_l3.toNatClampNeg))), (0, .ref a_this)]) hx hb dX10_code_27 hl (k := 2) rfl rfl (by decide) rfl (fun ls hl => ?_)
        refine lv_goto (tgt := 4) hx hb dX10_code_30 (by decide) ?_
        exact ih4 ((b4_l1 * r_15) + (c_this_entryRank b4_l3.toNatClampNeg)) (b4_l3 + 1) h _ _ hP hD hS _ (lv_sub hl [2, 1, 0] rfl)
  exact L4 FU (0 : Int64) (0 : Int32) h _ _ hP hD hS _ (lv_sub hl [2, 1, 0] rfl)
set_option maxHeartbeats 4000000 in
set_option maxRecDepth 100000 in
theorem mtX10_decode (l : Launch) (D : va_G) (cI cJ cO : ClassId) (PL : va_W) (sz : Nat) (a_this : Nat) (a_this_chosen : Nat) (a_this_factorial : Nat) (a_this_catalan : Nat) (a_this_parted : Nat) (a_this_closed : Nat) (f_this_now : Int32) (a_this_of : Nat) (a_this_buffer : Nat) (a_this_made : Nat) (a_this_stackOne : Nat) (a_this_stackOther : Nat) (a_this_stackLong : Nat) (a_this_left : Nat) (f_this_entryMany : Int32) (a_this_entryFamily : Nat) (a_this_entryOf : Nat) (a_this_entryRank : Nat) (c_this_entryRank : Nat → Int64) (c_this_catalan : Nat → Int64) (c_this_chosen : Nat → Int64) (c_this_closed : Nat → Int64) (c_this_entryFamily : Nat → Int32) (c_this_entryOf : Nat → Int32) (c_this_factorial : Nat → Int64) (c_this_parted : Nat → Int64) (v_p1 : Int64) (r0 : Int32 × (Nat → Int64)) (h : fX10_decode f_this_entryMany c_this_entryRank c_this_catalan c_this_chosen c_this_closed c_this_entryFamily c_this_entryOf c_this_factorial c_this_parted v_p1 = some r0) : Met l yX10_decode (rk_w yX10_decode cX10_decode 9 (some .int)) rmX10_decode (va_Pc [.ref a_this, .long v_p1] (rk_B D (rk_TY cI cJ cO) [(a_this_entryRank, .inl (cJ, 10, .inr (.inl c_this_entryRank)))] [(a_this, .inr (9, [.ref a_this_chosen, .ref a_this_factorial, .ref a_this_catalan, .ref a_this_parted, .ref a_this_closed, .int f_this_now, .ref a_this_of, .ref a_this_buffer, .ref a_this_made, .ref a_this_stackOne, .ref a_this_stackOther, .ref a_this_stackLong, .ref a_this_left, .int f_this_entryMany, .ref a_this_entryFamily, .ref a_this_entryOf, .ref a_this_entryRank])), (a_this_catalan, .inl (cJ, 31, .inr (.inl c_this_catalan))), (a_this_chosen, .inl (cJ, 3721, .inr (.inl c_this_chosen))), (a_this_closed, .inl (cJ, 1722, .inr (.inl c_this_closed))), (a_this_entryFamily, .inl (cI, 10, .inl c_this_entryFamily)), (a_this_entryOf, .inl (cI, 40, .inl c_this_entryOf)), (a_this_factorial, .inl (cJ, 21, .inr (.inl c_this_factorial))), (a_this_parted, .inl (cJ, 3721, .inr (.inl c_this_parted)))] PL sz)) (rk_Qi r0.1 D [(a_this_entryRank, .inl (cJ, 10, .inr (.inl r0.2)))] [(a_this_entryRank, .inl (cJ, 10, .inr (.inl c_this_entryRank)))] sz) 0 0 (va_A [(a_this_entryRank, .inl (cJ, 10, .inr (.inl c_this_entryRank)))] sz) := by
  refine rk_meti h (fun x : Int32 × (Nat → Int64) => x.1) (fun x => [(a_this_entryRank, .inl (cJ, 10, .inr (.inl x.2)))]) (by decide) (Nat.le_of_ble_eq_true rfl) ?_
  intro p e s m args below meth c A ls Q hret hname hF hP hD hA hV hR0 hn hPL hnl hl h hS
  have hx := hF.1
  have hb := hF.2.1
  have hml := hF.2.2.1
  have hown : s.vm.findClass RX10 = some m.cls := hF.2.2.2.1
  have htc := hF.2.2.2.2
  have hP : va_P D vwCl [(a_this_entryRank, .inl (cJ, 10, .inr (.inl c_this_entryRank)))] s.heap := hP
  have hD : va_D A [(a_this_entryRank, .inl (cJ, 10, .inr (.inl c_this_entryRank)))] := hD
  have hR0 : va_P D vwCl [(a_this, .inr (9, [.ref a_this_chosen, .ref a_this_factorial, .ref a_this_catalan, .ref a_this_parted, .ref a_this_closed, .int f_this_now, .ref a_this_of, .ref a_this_buffer, .ref a_this_made, .ref a_this_stackOne, .ref a_this_stackOther, .ref a_this_stackLong, .ref a_this_left, .int f_this_entryMany, .ref a_this_entryFamily, .ref a_this_entryOf, .ref a_this_entryRank])), (a_this_catalan, .inl (cJ, 31, .inr (.inl c_this_catalan))), (a_this_chosen, .inl (cJ, 3721, .inr (.inl c_this_chosen))), (a_this_closed, .inl (cJ, 1722, .inr (.inl c_this_closed))), (a_this_entryFamily, .inl (cI, 10, .inl c_this_entryFamily)), (a_this_entryOf, .inl (cI, 40, .inl c_this_entryOf)), (a_this_factorial, .inl (cJ, 21, .inr (.inl c_this_factorial))), (a_this_parted, .inl (cJ, 3721, .inr (.inl c_this_parted)))] s.heap := hR0
  have hR := hR0
  have hl : lv_has ls 9 [(0, .ref a_this), (1, .long v_p1)] := hl
  unfold fX10_decode at h
  refine lv_lload_n hx hb dX10_decode_0 rfl (lv_at hl 1 rfl) ?_
  refine lv_lconst (v := 0) hx hb dX10_decode_1 (by decide) ?_
  refine lv_aload_n hx hb dX10_decode_2 rfl (lv_at hl 0 rfl) ?_
  obtain ⟨r_3, hc_3, h⟩ := rk_bd h
  refine rk_l (wr := [(a_this_entryRank, .inl (cJ, 10, .inr (.inl c_this_entryRank)))]) (va_runV (C := RX10) (As := []) (rest := [.long (0 : Int64), .long v_p1]) hF (mtX10_totalNow l D cI cJ cO PL _ a_this a_this_chosen a_this_factorial a_this_catalan a_this_parted a_this_closed f_this_now a_this_of a_this_buffer a_this_made a_this_stackOne a_this_stackOther a_this_stackLong a_this_left f_this_entryMany a_this_entryFamily a_this_entryOf a_this_entryRank c_this_catalan c_this_chosen c_this_closed c_this_entryFamily c_this_entryOf c_this_factorial c_this_parted r_3 hc_3) (cwV 0 htc (rk_gV w_5_83 w_5_85 ws_77 w_1_7 w_5_86) rfl rfl rfl (by decide +kernel) ⟨(Nat.le_of_ble_eq_true rfl), (Nat.le_of_ble_eq_true rfl)⟩) (rk_preV (va_recv hV.1 hR (ci := 9) (q0 := 0) rfl rfl) (rk_preS hP hD hS hR hn hPL hnl hV [] [(false, 0), (false, 1), (false, 2), (false, 3), (false, 4), (false, 5), (false, 6), (false, 7)] rfl (by decide) rfl (by decide))) rfl rfl hl.1 rfl (lv_room (Nat.le_of_ble_eq_true rfl)) dX10_decode_3 ⟨(Nat.le_of_ble_eq_true rfl), (Nat.le_of_ble_eq_true rfl)⟩) hP hD hS hA hR0 hn [] [0] rfl rfl (by decide) (by decide) (fun H locs hP hD hS hR => ?_)
  have hP : va_P D vwCl [(a_this_entryRank, .inl (cJ, 10, .inr (.inl c_this_entryRank)))] H := hP
  have hD : va_D A [(a_this_entryRank, .inl (cJ, 10, .inr (.inl c_this_entryRank)))] := hD
  refine lv_lconst (v := 1) hx hb dX10_decode_6 (by decide) ?_
  refine lv_lsub hx hb dX10_decode_7 ?_
  obtain ⟨r_8, hc_8, h⟩ := rk_bd h
  refine rk_i (wr := [(a_this_entryRank, .inl (cJ, 10, .inr (.inl c_this_entryRank)))]) (va_runS (As := [.long v_p1, .long (0 : Int64), .long (r_3 - (1 : Int64))]) (rest := []) hF (mtX10_within l D cI cJ cO PL _ v_p1 (0 : Int64) (r_3 - (1 : Int64)) r_8 hc_8) (va_cwS 3 htc (rk_gVS w_4_55 w_4_56 w_1_7 w_4_57) rfl rfl rfl (by decide +kernel) ⟨(Nat.le_of_ble_eq_true rfl), (Nat.le_of_ble_eq_true rfl)⟩) (rk_preS hP hD hS hR hn hPL hnl hV [] [] rfl (by decide) rfl (by decide)) rfl rfl hl.1 rfl (lv_room (Nat.le_of_ble_eq_true rfl)) dX10_decode_8 ⟨(Nat.le_of_ble_eq_true rfl), (Nat.le_of_ble_eq_true rfl)⟩) hP hD hS hA hR0 hn [] [0] rfl rfl (by decide) (by decide) (fun H locs hP hD hS hR => ?_)
  have hP : va_P D vwCl [(a_this_entryRank, .inl (cJ, 10, .inr (.inl c_this_entryRank)))] H := hP
  have hD : va_D A [(a_this_entryRank, .inl (cJ, 10, .inr (.inl c_this_entryRank)))] := hD
  refine lv_if_ne (tgt := 16) hx hb dX10_decode_11 (by decide) (fun hc1 => ?_) (fun hc1 => ?_)
  · have h := rk_if hc1 h
    refine lv_iconst (v := 0) hx hb dX10_decode_16 (by decide) ?_
    refine lv_istore_n (lv' := [(3, .int (0 : Int32)), (0, .ref a_this), (1, .long v_p1)]) hx hb dX10_decode_17 rfl hl (by decide) rfl (fun ls hl => ?_)
    refine lv_lload_n hx hb dX10_decode_18 rfl (lv_at hl 2 rfl) ?_
    refine lv_lstore (lv' := [(4, .long v_p1), (3, .int (0 : Int32)), (0, .ref a_this), (1, .long v_p1)]) hx hb dX10_decode_19 hl (by decide) rfl (fun ls hl => ?_)
    refine lv_aload_n hx hb dX10_decode_21 rfl (lv_at hl 2 rfl) ?_
    refine va_get (D := D) (ci := 9) (v := .int f_this_entryMany) (C := RX10) (T := TX10) (N := 17) hx hb htc inX10 hown hV.1 hR 0 rfl rfl 13 (by decide) (htc _ w_4_11) (fun _ h9 => h9) rfl dX10_decode_22 ?_
    refine lv_iconst (v := 1) hx hb dX10_decode_25 (by decide) ?_
    refine lv_isub hx hb dX10_decode_26 ?_
    refine lv_istore (lv' := [(6, .int (f_this_entryMany - (1 : Int32))), (4, .long v_p1), (3, .int (0 : Int32)), (0, .ref a_this), (1, .long v_p1)]) hx hb dX10_decode_27 hl (by decide) rfl (fun ls hl => ?_)
    have L29 : ∀ (n29 : Nat) (b29_l3 : Int32) (b29_l4 : Int64) (b29_l6 : Int32) (b29_c_this_entryRank : Nat → Int64), rk_it4 (fX10_decode_L29 c_this_catalan c_this_chosen c_this_closed c_this_entryFamily c_this_entryOf c_this_factorial c_this_parted) n29 b29_l3 b29_l4 b29_l6 b29_c_this_entryRank = some r0 → ∀ (H : Heap) (locs : List Loc), va_P D vwCl [(a_this_entryRank, .inl (cJ, 10, .inr (.inl b29_c_this_entryRank)))] H → va_D A [(a_this_entryRank, .inl (cJ, 10, .inr (.inl b29_c_this_entryRank)))] → va_S A s.heap H locs → ∀ (ls : Array Slot), lv_has ls 9 [(0, .ref a_this), (3, .int b29_l3), (4, .long b29_l4), (6, .int b29_l6)] → W p l e rmX10_decode s m args below meth c H locs 0 0 Q (F0 m 29 ls []) := by
      intro n29
      induction n29 with
      | zero => intro b29_l3 b29_l4 b29_l6 b29_c_this_entryRank h; exact rk_no h
      | succ n29 ih29 =>
        intro b29_l3 b29_l4 b29_l6 b29_c_this_entryRank h H locs hP hD hS ls hl
        have h : fX10_decode_L29 c_this_catalan c_this_chosen c_this_closed c_this_entryFamily c_this_entryOf c_this_factorial c_this_parted (rk_it4 (fX10_decode_L29 c_this_catalan c_this_chosen c_this_closed c_this_entryFamily c_this_entryOf c_this_factorial c_this_parted) n29) b29_l3 b29_l4 b29_l6 b29_c_this_entryRank = some r0 := h
        unfold fX10_decode_L29 at h
        have hR := rk_keep hR0 hn hS
        refine lv_iload hx hb dX10_decode_29 (lv_at hl 3 rfl) ?_
        refine lv_if_lt (tgt := 92) hx hb dX10_decode_31 (by decide) (fun hc2 => ?_) (fun hc2 => ?_)
        · have h := rk_if hc2 h
          refine lv_iload_n hx hb dX10_decode_92 rfl (lv_at hl 1 rfl) ?_
          exact hret (b29_l3, b29_c_this_entryRank) _ _ _ _ h dX10_decode_93 hP hD hS
        · have h := rk_nif hc2 h
          refine lv_lload hx hb dX10_decode_34 (lv_at hl 2 rfl) ?_
          refine lv_aload_n hx hb dX10_decode_36 rfl (lv_at hl 0 rfl) ?_
          refine lv_iload hx hb dX10_decode_37 (lv_at hl 3 rfl) ?_
          obtain ⟨r_39, hc_39, h⟩ := rk_bd h
          refine rk_l (wr := [(a_this_entryRank, .inl (cJ, 10, .inr (.inl b29_c_this_entryRank)))]) (va_runV (C := RX10) (As := [.int b29_l6]) (rest := [.long b29_l4]) hF (mtX10_entryCount l D cI cJ cO PL _ a_this a_this_chosen a_this_factorial a_this_catalan a_this_parted a_this_closed f_this_now a_this_of a_this_buffer a_this_made a_this_stackOne a_this_stackOther a_this_stackLong a_this_left f_this_entryMany a_this_entryFamily a_this_entryOf a_this_entryRank c_this_catalan c_this_chosen c_this_closed c_this_entryFamily c_this_entryOf c_this_factorial c_this_parted b29_l6 r_39 hc_39) (cwV 1 htc (rk_gV w_5_87 w_5_89 ws_78 w_1_7 w_5_90) rfl rfl rfl (by decide +kernel) ⟨(Nat.le_of_ble_eq_true rfl), (Nat.le_of_ble_eq_true rfl)⟩) (rk_preV (va_recv hV.1 hR (ci := 9) (q0 := 0) rfl rfl) (rk_preS hP hD hS hR hn hPL hnl hV [] [(false, 0), (false, 1), (false, 2), (false, 3), (false, 4), (false, 5), (false, 6), (false, 7)] rfl (by decide) rfl (by decide))) rfl rfl hl.1 rfl (lv_room (Nat.le_of_ble_eq_true rfl)) dX10_decode_39 ⟨(Nat.le_of_ble_eq_true rfl), (Nat.le_of_ble_eq_true rfl)⟩) hP hD hS hA hR0 hn [] [0] rfl rfl (by decide) (by decide) (fun H locs hP hD hS hR => ?_)
          have hP : va_P D vwCl [(a_this_entryRank, .inl (cJ, 10, .inr (.inl b29_c_this_entryRank)))] H := hP
          have hD : va_D A [(a_this_entryRank, .inl (cJ, 10, .inr (.inl b29_c_this_entryRank)))] := hD
          obtain ⟨hz3, h⟩ := rk_gd h
          refine lv_lrem hx hb dX10_decode_42 hz3 ?_
          refine lv_lstore (lv' := [(7, .long (b29_l4 - b29_l4 / r_39 * r_39)), (0, .ref a_this), (3, .int b29_l3), (4, .long b29_l4), (6, .int b29_l6)]) hx hb dX10_decode_43 hl (by decide) rfl (fun ls hl => ?_)
          refine lv_lload hx hb dX10_decode_45 (lv_at hl 3 rfl) ?_
          refine lv_aload_n hx hb dX10_decode_47 rfl (lv_at hl 1 rfl) ?_
          refine lv_iload hx hb dX10_decode_48 (lv_at hl 4 rfl) ?_
          obtain ⟨r_50, hc_50, h⟩ := rk_bd h
          refine rk_l (wr := [(a_this_entryRank, .inl (cJ, 10, .inr (.inl b29_c_this_entryRank)))]) (va_runV (C := RX10) (As := [.int b29_l6]) (rest := [.long b29_l4]) hF (mtX10_entryCount l D cI cJ cO PL _ a_this a_this_chosen a_this_factorial a_this_catalan a_this_parted a_this_closed f_this_now a_this_of a_this_buffer a_this_made a_this_stackOne a_this_stackOther a_this_stackLong a_this_left f_this_entryMany a_this_entryFamily a_this_entryOf a_this_entryRank c_this_catalan c_this_chosen c_this_closed c_this_entryFamily c_this_entryOf c_this_factorial c_this_parted b29_l6 r_50 hc_50) (cwV 1 htc (rk_gV w_5_87 w_5_89 ws_78 w_1_7 w_5_90) rfl rfl rfl (by decide +kernel) ⟨(Nat.le_of_ble_eq_true rfl), (Nat.le_of_ble_eq_true rfl)⟩) (rk_preV (va_recv hV.1 hR (ci := 9) (q0 := 0) rfl rfl) (rk_preS hP hD hS hR hn hPL hnl hV [] [(false, 0), (false, 1), (false, 2), (false, 3), (false, 4), (false, 5), (false, 6), (false, 7)] rfl (by decide) rfl (by decide))) rfl rfl hl.1 rfl (lv_room (Nat.le_of_ble_eq_true rfl)) dX10_decode_50 ⟨(Nat.le_of_ble_eq_true rfl), (Nat.le_of_ble_eq_true rfl)⟩) hP hD hS hA hR0 hn [] [0] rfl rfl (by decide) (by decide) (fun H locs hP hD hS hR => ?_)
          have hP : va_P D vwCl [(a_this_entryRank, .inl (cJ, 10, .inr (.inl b29_c_this_entryRank)))] H := hP
          have hD : va_D A [(a_this_entryRank, .inl (cJ, 10, .inr (.inl b29_c_this_entryRank)))] := hD
          obtain ⟨hz4, h⟩ := rk_gd h
          refine lv_ldiv hx hb dX10_decode_53 hz4 ?_
          refine lv_lstore (lv' := [(4, .long (b29_l4 / r_50)), (7, .long (b29_l4 - b29_l4 / r_39 * r_39)), (0, .ref a_this), (3, .int b29_l3), (6, .int b29_l6)]) hx hb dX10_decode_54 hl (by decide) rfl (fun ls hl => ?_)
          refine lv_iload_n hx hb dX10_decode_56 rfl (lv_at hl 3 rfl) ?_
          refine lv_lload hx hb dX10_decode_57 (lv_at hl 1 rfl) ?_
          refine lv_aload_n hx hb dX10_decode_59 rfl (lv_at hl 2 rfl) ?_
          refine va_get (D := D) (ci := 9) (v := .ref a_this_entryRank) (C := RX10) (T := TX10) (N := 17) hx hb htc inX10 hown hV.1 hR 0 rfl rfl 16 (by decide) (htc _ w_4_14) (fun _ h9 => h9) rfl dX10_decode_60 ?_
          refine lv_iload hx hb dX10_decode_63 (lv_at hl 4 rfl) ?_
          obtain ⟨hg5, h⟩ := rk_gd h
          refine va_lald hx hb hV.1 hP 0 1 rfl rfl hg5 dX10_decode_65 ?_
          have B75 : ∀ (b75_t1 : Int32), fX10_decode_B75 b29_l3 b29_l4 b29_l6 b29_c_this_entryRank (rk_it4 (fX10_decode_L29 c_this_catalan c_this_chosen c_this_closed c_this_entryFamily c_this_entryOf c_this_factorial c_this_parted) n29) r_39 r_50 b75_t1 = some r0 → ∀ (H : Heap) (locs : List Loc), va_P D vwCl [(a_this_entryRank, .inl (cJ, 10, .inr (.inl b29_c_this_entryRank)))] H → va_D A [(a_this_entryRank, .inl (cJ, 10, .inr (.inl b29_c_this_entryRank)))] → va_S A s.heap H locs → ∀ (ls : Array Slot), lv_has ls 9 [(0, .ref a_this), (4, .long (b29_l4 / r_50)), (6, .int b29_l6), (7, .long (b29_l4 - b29_l4 / r_39 * r_39))] → W p l e rmX10_decode s m args below meth c H locs 0 0 Q (F0 m 75 ls [.int b75_t1, .int b29_l3]) := by
            intro b75_t1 h H locs hP hD hS ls hl
            unfold fX10_decode_B75 at h
            have hR := rk_keep hR0 hn hS
            refine lv_iadd hx hb dX10_decode_75 ?_
            refine lv_istore_n (lv' := [(3, .int (b29_l3 + b75_t1)), (0, .ref a_this), (4, .long (b29_l4 / r_50)), (6, .int b29_l6), (7, .long (b29_l4 - b29_l4 / r_39 * r_39))]) hx hb dX10_decode_76 rfl hl (by decide) rfl (fun ls hl => ?_)
            refine lv_aload_n hx hb dX10_decode_77 rfl (lv_at hl 1 rfl) ?_
            refine va_get (D := D) (ci := 9) (v := .ref a_this_entryRank) (C := RX10) (T := TX10) (N := 17) hx hb htc inX10 hown hV.1 hR 0 rfl rfl 16 (by decide) (htc _ w_4_14) (fun _ h9 => h9) rfl dX10_decode_78 ?_
            refine lv_iload hx hb dX10_decode_81 (lv_at hl 3 rfl) ?_
            refine lv_lload hx hb dX10_decode_83 (lv_at hl 4 rfl) ?_
            refine va_last hx hb hV.1 hP hD hS 0 1 rfl rfl hg5 dX10_decode_85 (fun H locs hP hD hS => ?_)
            have hP : va_P D vwCl [(a_this_entryRank, .inl (cJ, 10, .inr (.inl (vp_updL b29_c_this_entryRank b29_l6.toNatClampNeg (b29_l4 - b29_l4 / r_39 * r_39)))))] H := hP
            have hD : va_D A [(a_this_entryRank, .inl (cJ, 10, .inr (.inl (vp_updL b29_c_this_entryRank b29_l6.toNatClampNeg (b29_l4 - b29_l4 / r_39 * r_39)))))] := hD
            have hR := rk_keep hR0 hn hS
            refine lv_iinc (v := (b29_l6 + (-1))) (lv' := [(6, .int (b29_l6 + (-1))), (3, .int (b29_l3 + b75_t1)), (0, .ref a_this), (4, .long (b29_l4 / r_50)), (7, .long (b29_l4 - b29_l4 / r_39 * r_39))]) hx hb dX10_decode_86 hl (k := 3) rfl rfl (by decide) rfl (fun ls hl => ?_)
            refine lv_goto (tgt := 29) hx hb dX10_decode_89 (by decide) ?_
            exact ih29 (b29_l3 + b75_t1) (b29_l4 / r_50) (b29_l6 + (-1)) (vp_updL b29_c_this_entryRank b29_l6.toNatClampNeg (b29_l4 - b29_l4 / r_39 * r_39)) h _ _ hP hD hS _ (lv_sub hl [2, 1, 3, 0] rfl)
          refine rk_lceq (tgt := 74) hx hb dX10_decode_66 dX10_decode_67 (by decide) (fun hc6 => ?_) (fun hc6 => ?_)
          · have h := rk_if hc6 h
            refine lv_iconst (v := 0) hx hb dX10_decode_74 (by decide) ?_
            exact B75 (0 : Int32) h _ _ hP hD hS _ (lv_sub hl [2, 0, 4, 1] rfl)
          · have h := rk_nif hc6 h
            refine lv_iconst (v := 1) hx hb dX10_decode_70 (by decide) ?_
            refine lv_goto (tgt := 75) hx hb dX10_decode_71 (by decide) ?_
            exact B75 (1 : Int32) h _ _ hP hD hS _ (lv_sub hl [2, 0, 4, 1] rfl)
    exact L29 FU (0 : Int32) v_p1 (f_this_entryMany - (1 : Int32)) c_this_entryRank h _ _ hP hD hS _ (lv_sub hl [3, 2, 1, 0] rfl)
  · have h := rk_nnif hc1 h
    refine lv_iconst (v := (-1)) hx hb dX10_decode_14 (by decide) ?_
    exact hret ((-1 : Int32), c_this_entryRank) _ _ _ _ h dX10_decode_15 hP hD hS
set_option maxHeartbeats 4000000 in
set_option maxRecDepth 100000 in
theorem mtX10_isBehind (l : Launch) (D : va_G) (cI cJ cO : ClassId) (PL : va_W) (sz : Nat) (a_this : Nat) (a_this_chosen : Nat) (a_this_factorial : Nat) (a_this_catalan : Nat) (a_this_parted : Nat) (a_this_closed : Nat) (f_this_now : Int32) (a_this_of : Nat) (a_this_buffer : Nat) (a_this_made : Nat) (a_this_stackOne : Nat) (a_this_stackOther : Nat) (a_this_stackLong : Nat) (a_this_left : Nat) (f_this_entryMany : Int32) (a_this_entryFamily : Nat) (a_this_entryOf : Nat) (a_this_entryRank : Nat) (c_this_entryFamily : Nat → Int32) (c_this_entryOf : Nat → Int32) (c_this_entryRank : Nat → Int64) (v_p1 : Int32) (r0 : Int32) (h : fX10_isBehind c_this_entryFamily c_this_entryOf c_this_entryRank v_p1 = some r0) : Met l yX10_isBehind (rk_w yX10_isBehind cX10_isBehind 3 (some .boolean)) rmX10_isBehind (va_Pc [.ref a_this, .int v_p1] (rk_B D (rk_TY cI cJ cO) [] [(a_this, .inr (9, [.ref a_this_chosen, .ref a_this_factorial, .ref a_this_catalan, .ref a_this_parted, .ref a_this_closed, .int f_this_now, .ref a_this_of, .ref a_this_buffer, .ref a_this_made, .ref a_this_stackOne, .ref a_this_stackOther, .ref a_this_stackLong, .ref a_this_left, .int f_this_entryMany, .ref a_this_entryFamily, .ref a_this_entryOf, .ref a_this_entryRank])), (a_this_entryFamily, .inl (cI, 10, .inl c_this_entryFamily)), (a_this_entryOf, .inl (cI, 40, .inl c_this_entryOf)), (a_this_entryRank, .inl (cJ, 10, .inr (.inl c_this_entryRank)))] PL sz)) (rk_Qi r0 D [] [] sz) 0 0 (va_A [] sz) := by
  refine rk_metz h (fun x : Int32 => x) (fun x => []) (by decide) (Nat.le_of_ble_eq_true rfl) ?_
  intro p e s m args below meth c A ls Q hret hname hF hP hD hA hV hR0 hn hPL hnl hl h hS
  have hx := hF.1
  have hb := hF.2.1
  have hml := hF.2.2.1
  have hown : s.vm.findClass RX10 = some m.cls := hF.2.2.2.1
  have htc := hF.2.2.2.2
  have hP : va_P D vwCl [] s.heap := hP
  have hD : va_D A [] := hD
  have hR0 : va_P D vwCl [(a_this, .inr (9, [.ref a_this_chosen, .ref a_this_factorial, .ref a_this_catalan, .ref a_this_parted, .ref a_this_closed, .int f_this_now, .ref a_this_of, .ref a_this_buffer, .ref a_this_made, .ref a_this_stackOne, .ref a_this_stackOther, .ref a_this_stackLong, .ref a_this_left, .int f_this_entryMany, .ref a_this_entryFamily, .ref a_this_entryOf, .ref a_this_entryRank])), (a_this_entryFamily, .inl (cI, 10, .inl c_this_entryFamily)), (a_this_entryOf, .inl (cI, 40, .inl c_this_entryOf)), (a_this_entryRank, .inl (cJ, 10, .inr (.inl c_this_entryRank)))] s.heap := hR0
  have hR := hR0
  have hl : lv_has ls 3 [(0, .ref a_this), (1, .int v_p1)] := hl
  unfold fX10_isBehind at h
  refine lv_aload_n hx hb dX10_isBehind_0 rfl (lv_at hl 0 rfl) ?_
  refine va_get (D := D) (ci := 9) (v := .ref a_this_entryFamily) (C := RX10) (T := TX10) (N := 17) hx hb htc inX10 hown hV.1 hR 0 rfl rfl 14 (by decide) (htc _ w_4_12) (fun _ h9 => h9) rfl dX10_isBehind_1 ?_
  refine lv_iload_n hx hb dX10_isBehind_4 rfl (lv_at hl 1 rfl) ?_
  obtain ⟨hg1, h⟩ := rk_gd h
  refine va_iald hx hb hV.1 hR 1 0 rfl rfl hg1 dX10_isBehind_5 ?_
  refine lv_aload_n hx hb dX10_isBehind_6 rfl (lv_at hl 0 rfl) ?_
  refine va_get (D := D) (ci := 9) (v := .ref a_this_entryFamily) (C := RX10) (T := TX10) (N := 17) hx hb htc inX10 hown hV.1 hR 0 rfl rfl 14 (by decide) (htc _ w_4_12) (fun _ h9 => h9) rfl dX10_isBehind_7 ?_
  refine lv_iload_n hx hb dX10_isBehind_10 rfl (lv_at hl 1 rfl) ?_
  refine lv_iconst (v := 1) hx hb dX10_isBehind_11 (by decide) ?_
  refine lv_iadd hx hb dX10_isBehind_12 ?_
  obtain ⟨hg2, h⟩ := rk_gd h
  refine va_iald hx hb hV.1 hR 1 0 rfl rfl hg2 dX10_isBehind_13 ?_
  refine lv_icmp_eq (tgt := 40) hx hb dX10_isBehind_14 (by decide) (fun hc3 => ?_) (fun hc3 => ?_)
  · have h := rk_if hc3 h
    refine lv_iconst (v := 4) hx hb dX10_isBehind_40 (by decide) ?_
    refine lv_iload_n hx hb dX10_isBehind_41 rfl (lv_at hl 1 rfl) ?_
    refine lv_imul hx hb dX10_isBehind_42 ?_
    refine lv_istore_n (lv' := [(2, .int ((4 : Int32) * v_p1)), (0, .ref a_this), (1, .int v_p1)]) hx hb dX10_isBehind_43 rfl hl (by decide) rfl (fun ls hl => ?_)
    have L44 : ∀ (n44 : Nat) (b44_l2 : Int32), rk_it1 (fX10_isBehind_L44 c_this_entryOf c_this_entryRank v_p1) n44 b44_l2 = some r0 → ∀ (H : Heap) (locs : List Loc), va_P D vwCl [] H → va_D A [] → va_S A s.heap H locs → ∀ (ls : Array Slot), lv_has ls 3 [(0, .ref a_this), (1, .int v_p1), (2, .int b44_l2)] → W p l e rmX10_isBehind s m args below meth c H locs 0 0 Q (F0 m 44 ls []) := by
      intro n44
      induction n44 with
      | zero => intro b44_l2 h; exact rk_no h
      | succ n44 ih44 =>
        intro b44_l2 h H locs hP hD hS ls hl
        have h : fX10_isBehind_L44 c_this_entryOf c_this_entryRank v_p1 (rk_it1 (fX10_isBehind_L44 c_this_entryOf c_this_entryRank v_p1) n44) b44_l2 = some r0 := h
        unfold fX10_isBehind_L44 at h
        have hR := rk_keep hR0 hn hS
        refine lv_iload_n hx hb dX10_isBehind_44 rfl (lv_at hl 2 rfl) ?_
        refine lv_iconst (v := 4) hx hb dX10_isBehind_45 (by decide) ?_
        refine lv_iload_n hx hb dX10_isBehind_46 rfl (lv_at hl 1 rfl) ?_
        refine lv_imul hx hb dX10_isBehind_47 ?_
        refine lv_iconst (v := 4) hx hb dX10_isBehind_48 (by decide) ?_
        refine lv_iadd hx hb dX10_isBehind_49 ?_
        refine lv_icmp_ge (tgt := 99) hx hb dX10_isBehind_50 (by decide) (fun hc4 => ?_) (fun hc4 => ?_)
        · have h := rk_if hc4 h
          refine lv_aload_n hx hb dX10_isBehind_99 rfl (lv_at hl 0 rfl) ?_
          refine va_get (D := D) (ci := 9) (v := .ref a_this_entryRank) (C := RX10) (T := TX10) (N := 17) hx hb htc inX10 hown hV.1 hR 0 rfl rfl 16 (by decide) (htc _ w_4_14) (fun _ h9 => h9) rfl dX10_isBehind_100 ?_
          refine lv_iload_n hx hb dX10_isBehind_103 rfl (lv_at hl 1 rfl) ?_
          refine va_lald hx hb hV.1 hR 3 1 rfl rfl hg1 dX10_isBehind_104 ?_
          refine lv_aload_n hx hb dX10_isBehind_105 rfl (lv_at hl 0 rfl) ?_
          refine va_get (D := D) (ci := 9) (v := .ref a_this_entryRank) (C := RX10) (T := TX10) (N := 17) hx hb htc inX10 hown hV.1 hR 0 rfl rfl 16 (by decide) (htc _ w_4_14) (fun _ h9 => h9) rfl dX10_isBehind_106 ?_
          refine lv_iload_n hx hb dX10_isBehind_109 rfl (lv_at hl 1 rfl) ?_
          refine lv_iconst (v := 1) hx hb dX10_isBehind_110 (by decide) ?_
          refine lv_iadd hx hb dX10_isBehind_111 ?_
          refine va_lald hx hb hV.1 hR 3 1 rfl rfl hg2 dX10_isBehind_112 ?_
          refine rk_lcle (tgt := 121) hx hb dX10_isBehind_113 dX10_isBehind_114 (by decide) (fun hc5 => ?_) (fun hc5 => ?_)
          · have h := rk_if hc5 h
            refine lv_iconst (v := 0) hx hb dX10_isBehind_121 (by decide) ?_
            exact hret (0 : Int32) _ _ _ _ h rk_nb0 dX10_isBehind_122 hP hD hS
          · have h := rk_nif hc5 h
            refine lv_iconst (v := 1) hx hb dX10_isBehind_117 (by decide) ?_
            refine lv_goto (tgt := 122) hx hb dX10_isBehind_118 (by decide) ?_
            exact hret (1 : Int32) _ _ _ _ h rk_nb1 dX10_isBehind_122 hP hD hS
        · have h := rk_nif hc4 h
          refine lv_aload_n hx hb dX10_isBehind_53 rfl (lv_at hl 0 rfl) ?_
          refine va_get (D := D) (ci := 9) (v := .ref a_this_entryOf) (C := RX10) (T := TX10) (N := 17) hx hb htc inX10 hown hV.1 hR 0 rfl rfl 15 (by decide) (htc _ w_4_13) (fun _ h9 => h9) rfl dX10_isBehind_54 ?_
          refine lv_iload_n hx hb dX10_isBehind_57 rfl (lv_at hl 2 rfl) ?_
          obtain ⟨hg6, h⟩ := rk_gd h
          refine va_iald hx hb hV.1 hR 2 0 rfl rfl hg6 dX10_isBehind_58 ?_
          refine lv_aload_n hx hb dX10_isBehind_59 rfl (lv_at hl 0 rfl) ?_
          refine va_get (D := D) (ci := 9) (v := .ref a_this_entryOf) (C := RX10) (T := TX10) (N := 17) hx hb htc inX10 hown hV.1 hR 0 rfl rfl 15 (by decide) (htc _ w_4_13) (fun _ h9 => h9) rfl dX10_isBehind_60 ?_
          refine lv_iload_n hx hb dX10_isBehind_63 rfl (lv_at hl 2 rfl) ?_
          refine lv_iconst (v := 4) hx hb dX10_isBehind_64 (by decide) ?_
          refine lv_iadd hx hb dX10_isBehind_65 ?_
          obtain ⟨hg7, h⟩ := rk_gd h
          refine va_iald hx hb hV.1 hR 2 0 rfl rfl hg7 dX10_isBehind_66 ?_
          refine lv_icmp_eq (tgt := 93) hx hb dX10_isBehind_67 (by decide) (fun hc8 => ?_) (fun hc8 => ?_)
          · have h := rk_if hc8 h
            refine lv_iinc (v := (b44_l2 + 1)) (lv' := [(2, .int (b44_l2 + 1)), (0, .ref a_this), (1, .int v_p1)]) hx hb dX10_isBehind_93 hl (k := 2) rfl rfl (by decide) rfl (fun ls hl => ?_)
            refine lv_goto (tgt := 44) hx hb dX10_isBehind_96 (by decide) ?_
            exact ih44 (b44_l2 + 1) h _ _ hP hD hS _ (lv_sub hl [1, 2, 0] rfl)
          · have h := rk_nif hc8 h
            refine lv_aload_n hx hb dX10_isBehind_70 rfl (lv_at hl 0 rfl) ?_
            refine va_get (D := D) (ci := 9) (v := .ref a_this_entryOf) (C := RX10) (T := TX10) (N := 17) hx hb htc inX10 hown hV.1 hR 0 rfl rfl 15 (by decide) (htc _ w_4_13) (fun _ h9 => h9) rfl dX10_isBehind_71 ?_
            refine lv_iload_n hx hb dX10_isBehind_74 rfl (lv_at hl 2 rfl) ?_
            refine va_iald hx hb hV.1 hR 2 0 rfl rfl hg6 dX10_isBehind_75 ?_
            refine lv_aload_n hx hb dX10_isBehind_76 rfl (lv_at hl 0 rfl) ?_
            refine va_get (D := D) (ci := 9) (v := .ref a_this_entryOf) (C := RX10) (T := TX10) (N := 17) hx hb htc inX10 hown hV.1 hR 0 rfl rfl 15 (by decide) (htc _ w_4_13) (fun _ h9 => h9) rfl dX10_isBehind_77 ?_
            refine lv_iload_n hx hb dX10_isBehind_80 rfl (lv_at hl 2 rfl) ?_
            refine lv_iconst (v := 4) hx hb dX10_isBehind_81 (by decide) ?_
            refine lv_iadd hx hb dX10_isBehind_82 ?_
            refine va_iald hx hb hV.1 hR 2 0 rfl rfl hg7 dX10_isBehind_83 ?_
            refine lv_icmp_le (tgt := 91) hx hb dX10_isBehind_84 (by decide) (fun hc9 => ?_) (fun hc9 => ?_)
            · have h := rk_if hc9 h
              refine lv_iconst (v := 0) hx hb dX10_isBehind_91 (by decide) ?_
              exact hret (0 : Int32) _ _ _ _ h rk_nb0 dX10_isBehind_92 hP hD hS
            · have h := rk_nif hc9 h
              refine lv_iconst (v := 1) hx hb dX10_isBehind_87 (by decide) ?_
              refine lv_goto (tgt := 92) hx hb dX10_isBehind_88 (by decide) ?_
              exact hret (1 : Int32) _ _ _ _ h rk_nb1 dX10_isBehind_92 hP hD hS
    exact L44 FU ((4 : Int32) * v_p1) h _ _ hP hD hS _ (lv_sub hl [1, 2, 0] rfl)
  · have h := rk_nif hc3 h
    refine lv_aload_n hx hb dX10_isBehind_17 rfl (lv_at hl 0 rfl) ?_
    refine va_get (D := D) (ci := 9) (v := .ref a_this_entryFamily) (C := RX10) (T := TX10) (N := 17) hx hb htc inX10 hown hV.1 hR 0 rfl rfl 14 (by decide) (htc _ w_4_12) (fun _ h9 => h9) rfl dX10_isBehind_18 ?_
    refine lv_iload_n hx hb dX10_isBehind_21 rfl (lv_at hl 1 rfl) ?_
    refine va_iald hx hb hV.1 hR 1 0 rfl rfl hg1 dX10_isBehind_22 ?_
    refine lv_aload_n hx hb dX10_isBehind_23 rfl (lv_at hl 0 rfl) ?_
    refine va_get (D := D) (ci := 9) (v := .ref a_this_entryFamily) (C := RX10) (T := TX10) (N := 17) hx hb htc inX10 hown hV.1 hR 0 rfl rfl 14 (by decide) (htc _ w_4_12) (fun _ h9 => h9) rfl dX10_isBehind_24 ?_
    refine lv_iload_n hx hb dX10_isBehind_27 rfl (lv_at hl 1 rfl) ?_
    refine lv_iconst (v := 1) hx hb dX10_isBehind_28 (by decide) ?_
    refine lv_iadd hx hb dX10_isBehind_29 ?_
    refine va_iald hx hb hV.1 hR 1 0 rfl rfl hg2 dX10_isBehind_30 ?_
    refine lv_icmp_le (tgt := 38) hx hb dX10_isBehind_31 (by decide) (fun hc10 => ?_) (fun hc10 => ?_)
    · have h := rk_if hc10 h
      refine lv_iconst (v := 0) hx hb dX10_isBehind_38 (by decide) ?_
      exact hret (0 : Int32) _ _ _ _ h rk_nb0 dX10_isBehind_39 hP hD hS
    · have h := rk_nif hc10 h
      refine lv_iconst (v := 1) hx hb dX10_isBehind_34 (by decide) ?_
      refine lv_goto (tgt := 39) hx hb dX10_isBehind_35 (by decide) ?_
      exact hret (1 : Int32) _ _ _ _ h rk_nb1 dX10_isBehind_39 hP hD hS
set_option maxHeartbeats 4000000 in
set_option maxRecDepth 100000 in
theorem mtX10_exchange (l : Launch) (D : va_G) (cI cJ cO : ClassId) (PL : va_W) (sz : Nat) (a_this : Nat) (a_this_chosen : Nat) (a_this_factorial : Nat) (a_this_catalan : Nat) (a_this_parted : Nat) (a_this_closed : Nat) (f_this_now : Int32) (a_this_of : Nat) (a_this_buffer : Nat) (a_this_made : Nat) (a_this_stackOne : Nat) (a_this_stackOther : Nat) (a_this_stackLong : Nat) (a_this_left : Nat) (f_this_entryMany : Int32) (a_this_entryFamily : Nat) (a_this_entryOf : Nat) (a_this_entryRank : Nat) (c_this_entryFamily : Nat → Int32) (c_this_entryOf : Nat → Int32) (c_this_entryRank : Nat → Int64) (v_p1 : Int32) (r0 : (Nat → Int32) × (Nat → Int32) × (Nat → Int64)) (h : fX10_exchange c_this_entryFamily c_this_entryOf c_this_entryRank v_p1 = some r0) : Met l yX10_exchange (rk_w yX10_exchange cX10_exchange 7 none) rmX10_exchange (va_Pc [.ref a_this, .int v_p1] (rk_B D (rk_TY cI cJ cO) [(a_this_entryFamily, .inl (cI, 10, .inl c_this_entryFamily)), (a_this_entryOf, .inl (cI, 40, .inl c_this_entryOf)), (a_this_entryRank, .inl (cJ, 10, .inr (.inl c_this_entryRank)))] [(a_this, .inr (9, [.ref a_this_chosen, .ref a_this_factorial, .ref a_this_catalan, .ref a_this_parted, .ref a_this_closed, .int f_this_now, .ref a_this_of, .ref a_this_buffer, .ref a_this_made, .ref a_this_stackOne, .ref a_this_stackOther, .ref a_this_stackLong, .ref a_this_left, .int f_this_entryMany, .ref a_this_entryFamily, .ref a_this_entryOf, .ref a_this_entryRank]))] PL sz)) (rk_Qv D [(a_this_entryFamily, .inl (cI, 10, .inl r0.1)), (a_this_entryOf, .inl (cI, 40, .inl r0.2.1)), (a_this_entryRank, .inl (cJ, 10, .inr (.inl r0.2.2)))] [(a_this_entryFamily, .inl (cI, 10, .inl c_this_entryFamily)), (a_this_entryOf, .inl (cI, 40, .inl c_this_entryOf)), (a_this_entryRank, .inl (cJ, 10, .inr (.inl c_this_entryRank)))] sz) 0 0 (va_A [(a_this_entryFamily, .inl (cI, 10, .inl c_this_entryFamily)), (a_this_entryOf, .inl (cI, 40, .inl c_this_entryOf)), (a_this_entryRank, .inl (cJ, 10, .inr (.inl c_this_entryRank)))] sz) := by
  refine rk_metv h (fun x => [(a_this_entryFamily, .inl (cI, 10, .inl x.1)), (a_this_entryOf, .inl (cI, 40, .inl x.2.1)), (a_this_entryRank, .inl (cJ, 10, .inr (.inl x.2.2)))]) (by decide) (Nat.le_of_ble_eq_true rfl) ?_
  intro p e s m args below meth c A ls Q hret hname hF hP hD hA hV hR0 hn hPL hnl hl h hS
  have hx := hF.1
  have hb := hF.2.1
  have hml := hF.2.2.1
  have hown : s.vm.findClass RX10 = some m.cls := hF.2.2.2.1
  have htc := hF.2.2.2.2
  have hP : va_P D vwCl [(a_this_entryFamily, .inl (cI, 10, .inl c_this_entryFamily)), (a_this_entryOf, .inl (cI, 40, .inl c_this_entryOf)), (a_this_entryRank, .inl (cJ, 10, .inr (.inl c_this_entryRank)))] s.heap := hP
  have hD : va_D A [(a_this_entryFamily, .inl (cI, 10, .inl c_this_entryFamily)), (a_this_entryOf, .inl (cI, 40, .inl c_this_entryOf)), (a_this_entryRank, .inl (cJ, 10, .inr (.inl c_this_entryRank)))] := hD
  have hR0 : va_P D vwCl [(a_this, .inr (9, [.ref a_this_chosen, .ref a_this_factorial, .ref a_this_catalan, .ref a_this_parted, .ref a_this_closed, .int f_this_now, .ref a_this_of, .ref a_this_buffer, .ref a_this_made, .ref a_this_stackOne, .ref a_this_stackOther, .ref a_this_stackLong, .ref a_this_left, .int f_this_entryMany, .ref a_this_entryFamily, .ref a_this_entryOf, .ref a_this_entryRank]))] s.heap := hR0
  have hR := hR0
  have hl : lv_has ls 7 [(0, .ref a_this), (1, .int v_p1)] := hl
  unfold fX10_exchange at h
  refine lv_aload_n hx hb dX10_exchange_0 rfl (lv_at hl 0 rfl) ?_
  refine va_get (D := D) (ci := 9) (v := .ref a_this_entryFamily) (C := RX10) (T := TX10) (N := 17) hx hb htc inX10 hown hV.1 hR 0 rfl rfl 14 (by decide) (htc _ w_4_12) (fun _ h9 => h9) rfl dX10_exchange_1 ?_
  refine lv_iload_n hx hb dX10_exchange_4 rfl (lv_at hl 1 rfl) ?_
  obtain ⟨hg1, h⟩ := rk_gd h
  refine va_iald hx hb hV.1 hP 0 0 rfl rfl hg1 dX10_exchange_5 ?_
  refine lv_istore_n (lv' := [(2, .int (c_this_entryFamily v_p1.toNatClampNeg)), (0, .ref a_this), (1, .int v_p1)]) hx hb dX10_exchange_6 rfl hl (by decide) rfl (fun ls hl => ?_)
  refine lv_aload_n hx hb dX10_exchange_7 rfl (lv_at hl 1 rfl) ?_
  refine va_get (D := D) (ci := 9) (v := .ref a_this_entryRank) (C := RX10) (T := TX10) (N := 17) hx hb htc inX10 hown hV.1 hR 0 rfl rfl 16 (by decide) (htc _ w_4_14) (fun _ h9 => h9) rfl dX10_exchange_8 ?_
  refine lv_iload_n hx hb dX10_exchange_11 rfl (lv_at hl 2 rfl) ?_
  refine va_lald hx hb hV.1 hP 2 1 rfl rfl hg1 dX10_exchange_12 ?_
  refine lv_lstore_n (lv' := [(3, .long (c_this_entryRank v_p1.toNatClampNeg)), (2, .int (c_this_entryFamily v_p1.toNatClampNeg)), (0, .ref a_this), (1, .int v_p1)]) hx hb dX10_exchange_13 rfl hl (by decide) rfl (fun ls hl => ?_)
  refine lv_aload_n hx hb dX10_exchange_14 rfl (lv_at hl 2 rfl) ?_
  refine va_get (D := D) (ci := 9) (v := .ref a_this_entryFamily) (C := RX10) (T := TX10) (N := 17) hx hb htc inX10 hown hV.1 hR 0 rfl rfl 14 (by decide) (htc _ w_4_12) (fun _ h9 => h9) rfl dX10_exchange_15 ?_
  refine lv_iload_n hx hb dX10_exchange_18 rfl (lv_at hl 3 rfl) ?_
  refine lv_aload_n hx hb dX10_exchange_19 rfl (lv_at hl 2 rfl) ?_
  refine va_get (D := D) (ci := 9) (v := .ref a_this_entryFamily) (C := RX10) (T := TX10) (N := 17) hx hb htc inX10 hown hV.1 hR 0 rfl rfl 14 (by decide) (htc _ w_4_12) (fun _ h9 => h9) rfl dX10_exchange_20 ?_
  refine lv_iload_n hx hb dX10_exchange_23 rfl (lv_at hl 3 rfl) ?_
  refine lv_iconst (v := 1) hx hb dX10_exchange_24 (by decide) ?_
  refine lv_iadd hx hb dX10_exchange_25 ?_
  obtain ⟨hg2, h⟩ := rk_gd h
  refine va_iald hx hb hV.1 hP 0 0 rfl rfl hg2 dX10_exchange_26 ?_
  refine va_iast hx hb hV.1 hP hD hS 0 0 rfl rfl hg1 dX10_exchange_27 (fun H locs hP hD hS => ?_)
  have hP : va_P D vwCl [(a_this_entryFamily, .inl (cI, 10, .inl (upd c_this_entryFamily v_p1.toNatClampNeg (c_this_entryFamily (v_p1 + (1 : Int32)).toNatClampNeg)))), (a_this_entryOf, .inl (cI, 40, .inl c_this_entryOf)), (a_this_entryRank, .inl (cJ, 10, .inr (.inl c_this_entryRank)))] H := hP
  have hD : va_D A [(a_this_entryFamily, .inl (cI, 10, .inl (upd c_this_entryFamily v_p1.toNatClampNeg (c_this_entryFamily (v_p1 + (1 : Int32)).toNatClampNeg)))), (a_this_entryOf, .inl (cI, 40, .inl c_this_entryOf)), (a_this_entryRank, .inl (cJ, 10, .inr (.inl c_this_entryRank)))] := hD
  have hR := rk_keep hR0 hn hS
  refine lv_aload_n hx hb dX10_exchange_28 rfl (lv_at hl 2 rfl) ?_
  refine va_get (D := D) (ci := 9) (v := .ref a_this_entryRank) (C := RX10) (T := TX10) (N := 17) hx hb htc inX10 hown hV.1 hR 0 rfl rfl 16 (by decide) (htc _ w_4_14) (fun _ h9 => h9) rfl dX10_exchange_29 ?_
  refine lv_iload_n hx hb dX10_exchange_32 rfl (lv_at hl 3 rfl) ?_
  refine lv_aload_n hx hb dX10_exchange_33 rfl (lv_at hl 2 rfl) ?_
  refine va_get (D := D) (ci := 9) (v := .ref a_this_entryRank) (C := RX10) (T := TX10) (N := 17) hx hb htc inX10 hown hV.1 hR 0 rfl rfl 16 (by decide) (htc _ w_4_14) (fun _ h9 => h9) rfl dX10_exchange_34 ?_
  refine lv_iload_n hx hb dX10_exchange_37 rfl (lv_at hl 3 rfl) ?_
  refine lv_iconst (v := 1) hx hb dX10_exchange_38 (by decide) ?_
  refine lv_iadd hx hb dX10_exchange_39 ?_
  refine va_lald hx hb hV.1 hP 2 1 rfl rfl hg2 dX10_exchange_40 ?_
  refine va_last hx hb hV.1 hP hD hS 2 1 rfl rfl hg1 dX10_exchange_41 (fun H locs hP hD hS => ?_)
  have hP : va_P D vwCl [(a_this_entryFamily, .inl (cI, 10, .inl (upd c_this_entryFamily v_p1.toNatClampNeg (c_this_entryFamily (v_p1 + (1 : Int32)).toNatClampNeg)))), (a_this_entryOf, .inl (cI, 40, .inl c_this_entryOf)), (a_this_entryRank, .inl (cJ, 10, .inr (.inl (vp_updL c_this_entryRank v_p1.toNatClampNeg (c_this_entryRank (v_p1 + (1 : Int32)).toNatClampNeg)))))] H := hP
  have hD : va_D A [(a_this_entryFamily, .inl (cI, 10, .inl (upd c_this_entryFamily v_p1.toNatClampNeg (c_this_entryFamily (v_p1 + (1 : Int32)).toNatClampNeg)))), (a_this_entryOf, .inl (cI, 40, .inl c_this_entryOf)), (a_this_entryRank, .inl (cJ, 10, .inr (.inl (vp_updL c_this_entryRank v_p1.toNatClampNeg (c_this_entryRank (v_p1 + (1 : Int32)).toNatClampNeg)))))] := hD
  have hR := rk_keep hR0 hn hS
  refine lv_aload_n hx hb dX10_exchange_42 rfl (lv_at hl 2 rfl) ?_
  refine va_get (D := D) (ci := 9) (v := .ref a_this_entryFamily) (C := RX10) (T := TX10) (N := 17) hx hb htc inX10 hown hV.1 hR 0 rfl rfl 14 (by decide) (htc _ w_4_12) (fun _ h9 => h9) rfl dX10_exchange_43 ?_
  refine lv_iload_n hx hb dX10_exchange_46 rfl (lv_at hl 3 rfl) ?_
  refine lv_iconst (v := 1) hx hb dX10_exchange_47 (by decide) ?_
  refine lv_iadd hx hb dX10_exchange_48 ?_
  refine lv_iload_n hx hb dX10_exchange_49 rfl (lv_at hl 1 rfl) ?_
  refine va_iast hx hb hV.1 hP hD hS 0 0 rfl rfl hg2 dX10_exchange_50 (fun H locs hP hD hS => ?_)
  have hP : va_P D vwCl [(a_this_entryFamily, .inl (cI, 10, .inl (upd (upd c_this_entryFamily v_p1.toNatClampNeg (c_this_entryFamily (v_p1 + (1 : Int32)).toNatClampNeg)) (v_p1 + (1 : Int32)).toNatClampNeg (c_this_entryFamily v_p1.toNatClampNeg)))), (a_this_entryOf, .inl (cI, 40, .inl c_this_entryOf)), (a_this_entryRank, .inl (cJ, 10, .inr (.inl (vp_updL c_this_entryRank v_p1.toNatClampNeg (c_this_entryRank (v_p1 + (1 : Int32)).toNatClampNeg)))))] H := hP
  have hD : va_D A [(a_this_entryFamily, .inl (cI, 10, .inl (upd (upd c_this_entryFamily v_p1.toNatClampNeg (c_this_entryFamily (v_p1 + (1 : Int32)).toNatClampNeg)) (v_p1 + (1 : Int32)).toNatClampNeg (c_this_entryFamily v_p1.toNatClampNeg)))), (a_this_entryOf, .inl (cI, 40, .inl c_this_entryOf)), (a_this_entryRank, .inl (cJ, 10, .inr (.inl (vp_updL c_this_entryRank v_p1.toNatClampNeg (c_this_entryRank (v_p1 + (1 : Int32)).toNatClampNeg)))))] := hD
  have hR := rk_keep hR0 hn hS
  refine lv_aload_n hx hb dX10_exchange_51 rfl (lv_at hl 2 rfl) ?_
  refine va_get (D := D) (ci := 9) (v := .ref a_this_entryRank) (C := RX10) (T := TX10) (N := 17) hx hb htc inX10 hown hV.1 hR 0 rfl rfl 16 (by decide) (htc _ w_4_14) (fun _ h9 => h9) rfl dX10_exchange_52 ?_
  refine lv_iload_n hx hb dX10_exchange_55 rfl (lv_at hl 3 rfl) ?_
  refine lv_iconst (v := 1) hx hb dX10_exchange_56 (by decide) ?_
  refine lv_iadd hx hb dX10_exchange_57 ?_
  refine lv_lload_n hx hb dX10_exchange_58 rfl (lv_at hl 0 rfl) ?_
  refine va_last hx hb hV.1 hP hD hS 2 1 rfl rfl hg2 dX10_exchange_59 (fun H locs hP hD hS => ?_)
  have hP : va_P D vwCl [(a_this_entryFamily, .inl (cI, 10, .inl (upd (upd c_this_entryFamily v_p1.toNatClampNeg (c_this_entryFamily (v_p1 + (1 : Int32)).toNatClampNeg)) (v_p1 + (1 : Int32)).toNatClampNeg (c_this_entryFamily v_p1.toNatClampNeg)))), (a_this_entryOf, .inl (cI, 40, .inl c_this_entryOf)), (a_this_entryRank, .inl (cJ, 10, .inr (.inl (vp_updL (vp_updL c_this_entryRank v_p1.toNatClampNeg (c_this_entryRank (v_p1 + (1 : Int32)).toNatClampNeg)) (v_p1 + (1 : Int32)).toNatClampNeg (c_this_entryRank v_p1.toNatClampNeg)))))] H := hP
  have hD : va_D A [(a_this_entryFamily, .inl (cI, 10, .inl (upd (upd c_this_entryFamily v_p1.toNatClampNeg (c_this_entryFamily (v_p1 + (1 : Int32)).toNatClampNeg)) (v_p1 + (1 : Int32)).toNatClampNeg (c_this_entryFamily v_p1.toNatClampNeg)))), (a_this_entryOf, .inl (cI, 40, .inl c_this_entryOf)), (a_this_entryRank, .inl (cJ, 10, .inr (.inl (vp_updL (vp_updL c_this_entryRank v_p1.toNatClampNeg (c_this_entryRank (v_p1 + (1 : Int32)).toNatClampNeg)) (v_p1 + (1 : Int32)).toNatClampNeg (c_this_entryRank v_p1.toNatClampNeg)))))] := hD
  have hR := rk_keep hR0 hn hS
  refine lv_iconst (v := 4) hx hb dX10_exchange_60 (by decide) ?_
  refine lv_iload_n hx hb dX10_exchange_61 rfl (lv_at hl 3 rfl) ?_
  refine lv_imul hx hb dX10_exchange_62 ?_
  refine lv_istore (lv' := [(5, .int ((4 : Int32) * v_p1)), (3, .long (c_this_entryRank v_p1.toNatClampNeg)), (2, .int (c_this_entryFamily v_p1.toNatClampNeg)), (0, .ref a_this), (1, .int v_p1)]) hx hb dX10_exchange_63 hl (by decide) rfl (fun ls hl => ?_)
  have L65 : ∀ (n65 : Nat) (b65_l5 : Int32) (b65_c_this_entryOf : Nat → Int32), rk_it2 (fX10_exchange_L65 c_this_entryFamily c_this_entryRank v_p1) n65 b65_l5 b65_c_this_entryOf = some r0 → ∀ (H : Heap) (locs : List Loc), va_P D vwCl [(a_this_entryFamily, .inl (cI, 10, .inl (upd (upd c_this_entryFamily v_p1.toNatClampNeg (c_this_entryFamily (v_p1 + (1 : Int32)).toNatClampNeg)) (v_p1 + (1 : Int32)).toNatClampNeg (c_this_entryFamily v_p1.toNatClampNeg)))), (a_this_entryOf, .inl (cI, 40, .inl b65_c_this_entryOf)), (a_this_entryRank, .inl (cJ, 10, .inr (.inl (vp_updL (vp_updL c_this_entryRank v_p1.toNatClampNeg (c_this_entryRank (v_p1 + (1 : Int32)).toNatClampNeg)) (v_p1 + (1 : Int32)).toNatClampNeg (c_this_entryRank v_p1.toNatClampNeg)))))] H → va_D A [(a_this_entryFamily, .inl (cI, 10, .inl (upd (upd c_this_entryFamily v_p1.toNatClampNeg (c_this_entryFamily (v_p1 + (1 : Int32)).toNatClampNeg)) (v_p1 + (1 : Int32)).toNatClampNeg (c_this_entryFamily v_p1.toNatClampNeg)))), (a_this_entryOf, .inl (cI, 40, .inl b65_c_this_entryOf)), (a_this_entryRank, .inl (cJ, 10, .inr (.inl (vp_updL (vp_updL c_this_entryRank v_p1.toNatClampNeg (c_this_entryRank (v_p1 + (1 : Int32)).toNatClampNeg)) (v_p1 + (1 : Int32)).toNatClampNeg (c_this_entryRank v_p1.toNatClampNeg)))))] → va_S A s.heap H locs → ∀ (ls : Array Slot), lv_has ls 7 [(0, .ref a_this), (1, .int v_p1), (5, .int b65_l5)] → W p l e rmX10_exchange s m args below meth c H locs 0 0 Q (F0 m 65 ls []) := by
    intro n65
    induction n65 with
    | zero => intro b65_l5 b65_c_this_entryOf h; exact rk_no h
    | succ n65 ih65 =>
      intro b65_l5 b65_c_this_entryOf h H locs hP hD hS ls hl
      have h : fX10_exchange_L65 c_this_entryFamily c_this_entryRank v_p1 (rk_it2 (fX10_exchange_L65 c_this_entryFamily c_this_entryRank v_p1) n65) b65_l5 b65_c_this_entryOf = some r0 := h
      unfold fX10_exchange_L65 at h
      have hR := rk_keep hR0 hn hS
      refine lv_iload hx hb dX10_exchange_65 (lv_at hl 2 rfl) ?_
      refine lv_iconst (v := 4) hx hb dX10_exchange_67 (by decide) ?_
      refine lv_iload_n hx hb dX10_exchange_68 rfl (lv_at hl 1 rfl) ?_
      refine lv_imul hx hb dX10_exchange_69 ?_
      refine lv_iconst (v := 4) hx hb dX10_exchange_70 (by decide) ?_
      refine lv_iadd hx hb dX10_exchange_71 ?_
      refine lv_icmp_ge (tgt := 117) hx hb dX10_exchange_72 (by decide) (fun hc3 => ?_) (fun hc3 => ?_)
      · have h := rk_if hc3 h
        exact hret ((upd (upd c_this_entryFamily v_p1.toNatClampNeg (c_this_entryFamily (v_p1 + (1 : Int32)).toNatClampNeg)) (v_p1 + (1 : Int32)).toNatClampNeg (c_this_entryFamily v_p1.toNatClampNeg)), b65_c_this_entryOf, (vp_updL (vp_updL c_this_entryRank v_p1.toNatClampNeg (c_this_entryRank (v_p1 + (1 : Int32)).toNatClampNeg)) (v_p1 + (1 : Int32)).toNatClampNeg (c_this_entryRank v_p1.toNatClampNeg))) _ _ _ _ h dX10_exchange_117 hP hD hS
      · have h := rk_nif hc3 h
        refine lv_aload_n hx hb dX10_exchange_75 rfl (lv_at hl 0 rfl) ?_
        refine va_get (D := D) (ci := 9) (v := .ref a_this_entryOf) (C := RX10) (T := TX10) (N := 17) hx hb htc inX10 hown hV.1 hR 0 rfl rfl 15 (by decide) (htc _ w_4_13) (fun _ h9 => h9) rfl dX10_exchange_76 ?_
        refine lv_iload hx hb dX10_exchange_79 (lv_at hl 2 rfl) ?_
        obtain ⟨hg4, h⟩ := rk_gd h
        refine va_iald hx hb hV.1 hP 1 0 rfl rfl hg4 dX10_exchange_81 ?_
        refine lv_istore (lv' := [(6, .int (b65_c_this_entryOf b65_l5.toNatClampNeg)), (0, .ref a_this), (1, .int v_p1), (5, .int b65_l5)]) hx hb dX10_exchange_82 hl (by decide) rfl (fun ls hl => ?_)
        refine lv_aload_n hx hb dX10_exchange_84 rfl (lv_at hl 1 rfl) ?_
        refine va_get (D := D) (ci := 9) (v := .ref a_this_entryOf) (C := RX10) (T := TX10) (N := 17) hx hb htc inX10 hown hV.1 hR 0 rfl rfl 15 (by decide) (htc _ w_4_13) (fun _ h9 => h9) rfl dX10_exchange_85 ?_
        refine lv_iload hx hb dX10_exchange_88 (lv_at hl 3 rfl) ?_
        refine lv_aload_n hx hb dX10_exchange_90 rfl (lv_at hl 1 rfl) ?_
        refine va_get (D := D) (ci := 9) (v := .ref a_this_entryOf) (C := RX10) (T := TX10) (N := 17) hx hb htc inX10 hown hV.1 hR 0 rfl rfl 15 (by decide) (htc _ w_4_13) (fun _ h9 => h9) rfl dX10_exchange_91 ?_
        refine lv_iload hx hb dX10_exchange_94 (lv_at hl 3 rfl) ?_
        refine lv_iconst (v := 4) hx hb dX10_exchange_96 (by decide) ?_
        refine lv_iadd hx hb dX10_exchange_97 ?_
        obtain ⟨hg5, h⟩ := rk_gd h
        refine va_iald hx hb hV.1 hP 1 0 rfl rfl hg5 dX10_exchange_98 ?_
        refine va_iast hx hb hV.1 hP hD hS 1 0 rfl rfl hg4 dX10_exchange_99 (fun H locs hP hD hS => ?_)
        have hP : va_P D vwCl [(a_this_entryFamily, .inl (cI, 10, .inl (upd (upd c_this_entryFamily v_p1.toNatClampNeg (c_this_entryFamily (v_p1 + (1 : Int32)).toNatClampNeg)) (v_p1 + (1 : Int32)).toNatClampNeg (c_this_entryFamily v_p1.toNatClampNeg)))), (a_this_entryOf, .inl (cI, 40, .inl (upd b65_c_this_entryOf b65_l5.toNatClampNeg (b65_c_this_entryOf (b65_l5 + (4 : Int32)).toNatClampNeg)))), (a_this_entryRank, .inl (cJ, 10, .inr (.inl (vp_updL (vp_updL c_this_entryRank v_p1.toNatClampNeg (c_this_entryRank (v_p1 + (1 : Int32)).toNatClampNeg)) (v_p1 + (1 : Int32)).toNatClampNeg (c_this_entryRank v_p1.toNatClampNeg)))))] H := hP
        have hD : va_D A [(a_this_entryFamily, .inl (cI, 10, .inl (upd (upd c_this_entryFamily v_p1.toNatClampNeg (c_this_entryFamily (v_p1 + (1 : Int32)).toNatClampNeg)) (v_p1 + (1 : Int32)).toNatClampNeg (c_this_entryFamily v_p1.toNatClampNeg)))), (a_this_entryOf, .inl (cI, 40, .inl (upd b65_c_this_entryOf b65_l5.toNatClampNeg (b65_c_this_entryOf (b65_l5 + (4 : Int32)).toNatClampNeg)))), (a_this_entryRank, .inl (cJ, 10, .inr (.inl (vp_updL (vp_updL c_this_entryRank v_p1.toNatClampNeg (c_this_entryRank (v_p1 + (1 : Int32)).toNatClampNeg)) (v_p1 + (1 : Int32)).toNatClampNeg (c_this_entryRank v_p1.toNatClampNeg)))))] := hD
        have hR := rk_keep hR0 hn hS
        refine lv_aload_n hx hb dX10_exchange_100 rfl (lv_at hl 1 rfl) ?_
        refine va_get (D := D) (ci := 9) (v := .ref a_this_entryOf) (C := RX10) (T := TX10) (N := 17) hx hb htc inX10 hown hV.1 hR 0 rfl rfl 15 (by decide) (htc _ w_4_13) (fun _ h9 => h9) rfl dX10_exchange_101 ?_
        refine lv_iload hx hb dX10_exchange_104 (lv_at hl 3 rfl) ?_
        refine lv_iconst (v := 4) hx hb dX10_exchange_106 (by decide) ?_
        refine lv_iadd hx hb dX10_exchange_107 ?_
        refine lv_iload hx hb dX10_exchange_108 (lv_at hl 0 rfl) ?_
        refine va_iast hx hb hV.1 hP hD hS 1 0 rfl rfl hg5 dX10_exchange_110 (fun H locs hP hD hS => ?_)
        have hP : va_P D vwCl [(a_this_entryFamily, .inl (cI, 10, .inl (upd (upd c_this_entryFamily v_p1.toNatClampNeg (c_this_entryFamily (v_p1 + (1 : Int32)).toNatClampNeg)) (v_p1 + (1 : Int32)).toNatClampNeg (c_this_entryFamily v_p1.toNatClampNeg)))), (a_this_entryOf, .inl (cI, 40, .inl (upd (upd b65_c_this_entryOf b65_l5.toNatClampNeg (b65_c_this_entryOf (b65_l5 + (4 : Int32)).toNatClampNeg)) (b65_l5 + (4 : Int32)).toNatClampNeg (b65_c_this_entryOf b65_l5.toNatClampNeg)))), (a_this_entryRank, .inl (cJ, 10, .inr (.inl (vp_updL (vp_updL c_this_entryRank v_p1.toNatClampNeg (c_this_entryRank (v_p1 + (1 : Int32)).toNatClampNeg)) (v_p1 + (1 : Int32)).toNatClampNeg (c_this_entryRank v_p1.toNatClampNeg)))))] H := hP
        have hD : va_D A [(a_this_entryFamily, .inl (cI, 10, .inl (upd (upd c_this_entryFamily v_p1.toNatClampNeg (c_this_entryFamily (v_p1 + (1 : Int32)).toNatClampNeg)) (v_p1 + (1 : Int32)).toNatClampNeg (c_this_entryFamily v_p1.toNatClampNeg)))), (a_this_entryOf, .inl (cI, 40, .inl (upd (upd b65_c_this_entryOf b65_l5.toNatClampNeg (b65_c_this_entryOf (b65_l5 + (4 : Int32)).toNatClampNeg)) (b65_l5 + (4 : Int32)).toNatClampNeg (b65_c_this_entryOf b65_l5.toNatClampNeg)))), (a_this_entryRank, .inl (cJ, 10, .inr (.inl (vp_updL (vp_updL c_this_entryRank v_p1.toNatClampNeg (c_this_entryRank (v_p1 + (1 : Int32)).toNatClampNeg)) (v_p1 + (1 : Int32)).toNatClampNeg (c_this_entryRank v_p1.toNatClampNeg)))))] := hD
        have hR := rk_keep hR0 hn hS
        refine lv_iinc (v := (b65_l5 + 1)) (lv' := [(5, .int (b65_l5 + 1)), (6, .int (b65_c_this_entryOf b65_l5.toNatClampNeg)), (0, .ref a_this), (1, .int v_p1)]) hx hb dX10_exchange_111 hl (k := 3) rfl rfl (by decide) rfl (fun ls hl => ?_)
        refine lv_goto (tgt := 65) hx hb dX10_exchange_114 (by decide) ?_
        exact ih65 (b65_l5 + 1) (upd (upd b65_c_this_entryOf b65_l5.toNatClampNeg (b65_c_this_entryOf (b65_l5 + (4 : Int32)).toNatClampNeg)) (b65_l5 + (4 : Int32)).toNatClampNeg (b65_c_this_entryOf b65_l5.toNatClampNeg)) h _ _ hP hD hS _ (lv_sub hl [2, 3, 0] rfl)
  exact L65 FU ((4 : Int32) * v_p1) c_this_entryOf h _ _ hP hD hS _ (lv_sub hl [3, 4, 0] rfl)
set_option maxHeartbeats 4000000 in
set_option maxRecDepth 100000 in
theorem mtX10_sort (l : Launch) (D : va_G) (cI cJ cO : ClassId) (PL : va_W) (sz : Nat) (a_this : Nat) (a_this_chosen : Nat) (a_this_factorial : Nat) (a_this_catalan : Nat) (a_this_parted : Nat) (a_this_closed : Nat) (f_this_now : Int32) (a_this_of : Nat) (a_this_buffer : Nat) (a_this_made : Nat) (a_this_stackOne : Nat) (a_this_stackOther : Nat) (a_this_stackLong : Nat) (a_this_left : Nat) (f_this_entryMany : Int32) (a_this_entryFamily : Nat) (a_this_entryOf : Nat) (a_this_entryRank : Nat) (c_this_entryFamily : Nat → Int32) (c_this_entryOf : Nat → Int32) (c_this_entryRank : Nat → Int64) (r0 : Int32 × (Nat → Int32) × (Nat → Int32) × (Nat → Int64)) (h : fX10_sort f_this_entryMany c_this_entryFamily c_this_entryOf c_this_entryRank = some r0) : Met l yX10_sort (rk_w yX10_sort cX10_sort 4 (some .int)) rmX10_sort (va_Pc [.ref a_this] (rk_B D (rk_TY cI cJ cO) [(a_this_entryFamily, .inl (cI, 10, .inl c_this_entryFamily)), (a_this_entryOf, .inl (cI, 40, .inl c_this_entryOf)), (a_this_entryRank, .inl (cJ, 10, .inr (.inl c_this_entryRank)))] [(a_this, .inr (9, [.ref a_this_chosen, .ref a_this_factorial, .ref a_this_catalan, .ref a_this_parted, .ref a_this_closed, .int f_this_now, .ref a_this_of, .ref a_this_buffer, .ref a_this_made, .ref a_this_stackOne, .ref a_this_stackOther, .ref a_this_stackLong, .ref a_this_left, .int f_this_entryMany, .ref a_this_entryFamily, .ref a_this_entryOf, .ref a_this_entryRank]))] PL sz)) (rk_Qi r0.1 D [(a_this_entryFamily, .inl (cI, 10, .inl r0.2.1)), (a_this_entryOf, .inl (cI, 40, .inl r0.2.2.1)), (a_this_entryRank, .inl (cJ, 10, .inr (.inl r0.2.2.2)))] [(a_this_entryFamily, .inl (cI, 10, .inl c_this_entryFamily)), (a_this_entryOf, .inl (cI, 40, .inl c_this_entryOf)), (a_this_entryRank, .inl (cJ, 10, .inr (.inl c_this_entryRank)))] sz) 0 0 (va_A [(a_this_entryFamily, .inl (cI, 10, .inl c_this_entryFamily)), (a_this_entryOf, .inl (cI, 40, .inl c_this_entryOf)), (a_this_entryRank, .inl (cJ, 10, .inr (.inl c_this_entryRank)))] sz) := by
  refine rk_meti h (fun x : Int32 × (Nat → Int32) × (Nat → Int32) × (Nat → Int64) => x.1) (fun x => [(a_this_entryFamily, .inl (cI, 10, .inl x.2.1)), (a_this_entryOf, .inl (cI, 40, .inl x.2.2.1)), (a_this_entryRank, .inl (cJ, 10, .inr (.inl x.2.2.2)))]) (by decide) (Nat.le_of_ble_eq_true rfl) ?_
  intro p e s m args below meth c A ls Q hret hname hF hP hD hA hV hR0 hn hPL hnl hl h hS
  have hx := hF.1
  have hb := hF.2.1
  have hml := hF.2.2.1
  have hown : s.vm.findClass RX10 = some m.cls := hF.2.2.2.1
  have htc := hF.2.2.2.2
  have hP : va_P D vwCl [(a_this_entryFamily, .inl (cI, 10, .inl c_this_entryFamily)), (a_this_entryOf, .inl (cI, 40, .inl c_this_entryOf)), (a_this_entryRank, .inl (cJ, 10, .inr (.inl c_this_entryRank)))] s.heap := hP
  have hD : va_D A [(a_this_entryFamily, .inl (cI, 10, .inl c_this_entryFamily)), (a_this_entryOf, .inl (cI, 40, .inl c_this_entryOf)), (a_this_entryRank, .inl (cJ, 10, .inr (.inl c_this_entryRank)))] := hD
  have hR0 : va_P D vwCl [(a_this, .inr (9, [.ref a_this_chosen, .ref a_this_factorial, .ref a_this_catalan, .ref a_this_parted, .ref a_this_closed, .int f_this_now, .ref a_this_of, .ref a_this_buffer, .ref a_this_made, .ref a_this_stackOne, .ref a_this_stackOther, .ref a_this_stackLong, .ref a_this_left, .int f_this_entryMany, .ref a_this_entryFamily, .ref a_this_entryOf, .ref a_this_entryRank]))] s.heap := hR0
  have hR := hR0
  have hl : lv_has ls 4 [(0, .ref a_this)] := hl
  unfold fX10_sort at h
  refine lv_iconst (v := 0) hx hb dX10_sort_0 (by decide) ?_
  refine lv_istore_n (lv' := [(1, .int (0 : Int32)), (0, .ref a_this)]) hx hb dX10_sort_1 rfl hl (by decide) rfl (fun ls hl => ?_)
  refine lv_iconst (v := 0) hx hb dX10_sort_2 (by decide) ?_
  refine lv_istore_n (lv' := [(2, .int (0 : Int32)), (1, .int (0 : Int32)), (0, .ref a_this)]) hx hb dX10_sort_3 rfl hl (by decide) rfl (fun ls hl => ?_)
  have L4 : ∀ (n4 : Nat) (b4_l1 : Int32) (b4_l2 : Int32) (b4_c_this_entryFamily : Nat → Int32) (b4_c_this_entryOf : Nat → Int32) (b4_c_this_entryRank : Nat → Int64), rk_it5 (fX10_sort_L4 f_this_entryMany) n4 b4_l1 b4_l2 b4_c_this_entryFamily b4_c_this_entryOf b4_c_this_entryRank = some r0 → ∀ (H : Heap) (locs : List Loc), va_P D vwCl [(a_this_entryFamily, .inl (cI, 10, .inl b4_c_this_entryFamily)), (a_this_entryOf, .inl (cI, 40, .inl b4_c_this_entryOf)), (a_this_entryRank, .inl (cJ, 10, .inr (.inl b4_c_this_entryRank)))] H → va_D A [(a_this_entryFamily, .inl (cI, 10, .inl b4_c_this_entryFamily)), (a_this_entryOf, .inl (cI, 40, .inl b4_c_this_entryOf)), (a_this_entryRank, .inl (cJ, 10, .inr (.inl b4_c_this_entryRank)))] → va_S A s.heap H locs → ∀ (ls : Array Slot), lv_has ls 4 [(0, .ref a_this), (1, .int b4_l1), (2, .int b4_l2)] → W p l e rmX10_sort s m args below meth c H locs 0 0 Q (F0 m 4 ls []) := by
    intro n4
    induction n4 with
    | zero => intro b4_l1 b4_l2 b4_c_this_entryFamily b4_c_this_entryOf b4_c_this_entryRank h; exact rk_no h
    | succ n4 ih4 =>
      intro b4_l1 b4_l2 b4_c_this_entryFamily b4_c_this_entryOf b4_c_this_entryRank h H locs hP hD hS ls hl
      have h : fX10_sort_L4 f_this_entryMany (rk_it5 (fX10_sort_L4 f_this_entryMany) n4) b4_l1 b4_l2 b4_c_this_entryFamily b4_c_this_entryOf b4_c_this_entryRank = some r0 := h
      unfold fX10_sort_L4 at h
      have hR := rk_keep hR0 hn hS
      refine lv_iload_n hx hb dX10_sort_4 rfl (lv_at hl 2 rfl) ?_
      refine lv_aload_n hx hb dX10_sort_5 rfl (lv_at hl 0 rfl) ?_
      refine va_get (D := D) (ci := 9) (v := .int f_this_entryMany) (C := RX10) (T := TX10) (N := 17) hx hb htc inX10 hown hV.1 hR 0 rfl rfl 13 (by decide) (htc _ w_4_11) (fun _ h9 => h9) rfl dX10_sort_6 ?_
      refine lv_icmp_ge (tgt := 51) hx hb dX10_sort_9 (by decide) (fun hc1 => ?_) (fun hc1 => ?_)
      · have h := rk_if hc1 h
        refine lv_iload_n hx hb dX10_sort_51 rfl (lv_at hl 1 rfl) ?_
        exact hret (b4_l1, b4_c_this_entryFamily, b4_c_this_entryOf, b4_c_this_entryRank) _ _ _ _ h dX10_sort_52 hP hD hS
      · have h := rk_nif hc1 h
        refine lv_iconst (v := 0) hx hb dX10_sort_12 (by decide) ?_
        refine lv_istore_n (lv' := [(3, .int (0 : Int32)), (0, .ref a_this), (1, .int b4_l1), (2, .int b4_l2)]) hx hb dX10_sort_13 rfl hl (by decide) rfl (fun ls hl => ?_)
        have L14 : ∀ (n14 : Nat) (b14_l1 : Int32) (b14_l3 : Int32) (b14_c_this_entryFamily : Nat → Int32) (b14_c_this_entryOf : Nat → Int32) (b14_c_this_entryRank : Nat → Int64), rk_it5 (fX10_sort_L14 f_this_entryMany b4_l2 (rk_it5 (fX10_sort_L4 f_this_entryMany) n4)) n14 b14_l1 b14_l3 b14_c_this_entryFamily b14_c_this_entryOf b14_c_this_entryRank = some r0 → ∀ (H : Heap) (locs : List Loc), va_P D vwCl [(a_this_entryFamily, .inl (cI, 10, .inl b14_c_this_entryFamily)), (a_this_entryOf, .inl (cI, 40, .inl b14_c_this_entryOf)), (a_this_entryRank, .inl (cJ, 10, .inr (.inl b14_c_this_entryRank)))] H → va_D A [(a_this_entryFamily, .inl (cI, 10, .inl b14_c_this_entryFamily)), (a_this_entryOf, .inl (cI, 40, .inl b14_c_this_entryOf)), (a_this_entryRank, .inl (cJ, 10, .inr (.inl b14_c_this_entryRank)))] → va_S A s.heap H locs → ∀ (ls : Array Slot), lv_has ls 4 [(0, .ref a_this), (1, .int b14_l1), (2, .int b4_l2), (3, .int b14_l3)] → W p l e rmX10_sort s m args below meth c H locs 0 0 Q (F0 m 14 ls []) := by
          intro n14
          induction n14 with
          | zero => intro b14_l1 b14_l3 b14_c_this_entryFamily b14_c_this_entryOf b14_c_this_entryRank h; exact rk_no h
          | succ n14 ih14 =>
            intro b14_l1 b14_l3 b14_c_this_entryFamily b14_c_this_entryOf b14_c_this_entryRank h H locs hP hD hS ls hl
            have h : fX10_sort_L14 f_this_entryMany b4_l2 (rk_it5 (fX10_sort_L4 f_this_entryMany) n4) (rk_it5 (fX10_sort_L14 f_this_entryMany b4_l2 (rk_it5 (fX10_sort_L4 f_this_entryMany) n4)) n14) b14_l1 b14_l3 b14_c_this_entryFamily b14_c_this_entryOf b14_c_this_entryRank = some r0 := h
            unfold fX10_sort_L14 at h
            have hR := rk_keep hR0 hn hS
            refine lv_iload_n hx hb dX10_sort_14 rfl (lv_at hl 3 rfl) ?_
            refine lv_iconst (v := 1) hx hb dX10_sort_15 (by decide) ?_
            refine lv_iadd hx hb dX10_sort_16 ?_
            refine lv_aload_n hx hb dX10_sort_17 rfl (lv_at hl 0 rfl) ?_
            refine va_get (D := D) (ci := 9) (v := .int f_this_entryMany) (C := RX10) (T := TX10) (N := 17) hx hb htc inX10 hown hV.1 hR 0 rfl rfl 13 (by decide) (htc _ w_4_11) (fun _ h9 => h9) rfl dX10_sort_18 ?_
            refine lv_icmp_ge (tgt := 45) hx hb dX10_sort_21 (by decide) (fun hc2 => ?_) (fun hc2 => ?_)
            · have h := rk_if hc2 h
              refine lv_iinc (v := (b4_l2 + 1)) (lv' := [(2, .int (b4_l2 + 1)), (0, .ref a_this), (1, .int b14_l1), (3, .int b14_l3)]) hx hb dX10_sort_45 hl (k := 2) rfl rfl (by decide) rfl (fun ls hl => ?_)
              refine lv_goto (tgt := 4) hx hb dX10_sort_48 (by decide) ?_
              exact ih4 b14_l1 (b4_l2 + 1) b14_c_this_entryFamily b14_c_this_entryOf b14_c_this_entryRank h _ _ hP hD hS _ (lv_sub hl [1, 2, 0] rfl)
            · have h := rk_nif hc2 h
              refine lv_aload_n hx hb dX10_sort_24 rfl (lv_at hl 0 rfl) ?_
              refine lv_iload_n hx hb dX10_sort_25 rfl (lv_at hl 3 rfl) ?_
              obtain ⟨r_26, hc_26, h⟩ := rk_bd h
              refine rk_i (wr := [(a_this_entryFamily, .inl (cI, 10, .inl b14_c_this_entryFamily)), (a_this_entryOf, .inl (cI, 40, .inl b14_c_this_entryOf)), (a_this_entryRank, .inl (cJ, 10, .inr (.inl b14_c_this_entryRank)))]) (va_runV (C := RX10) (As := [.int b14_l3]) (rest := []) hF (mtX10_isBehind l D cI cJ cO PL _ a_this a_this_chosen a_this_factorial a_this_catalan a_this_parted a_this_closed f_this_now a_this_of a_this_buffer a_this_made a_this_stackOne a_this_stackOther a_this_stackLong a_this_left f_this_entryMany a_this_entryFamily a_this_entryOf a_this_entryRank b14_c_this_entryFamily b14_c_this_entryOf b14_c_this_entryRank b14_l3 r_26 hc_26) (cwV 1 htc (rk_gV w_5_119 w_5_121 ws_79 w_1_7 w_5_122) rfl rfl rfl (by decide +kernel) ⟨(Nat.le_of_ble_eq_true rfl), (Nat.le_of_ble_eq_true rfl)⟩) (rk_preV (va_recv hV.1 hR (ci := 9) (q0 := 0) rfl rfl) (rk_preS hP hD hS hR hn hPL hnl hV [] [(false, 0), (true, 0), (true, 1), (true, 2)] rfl (by decide) rfl (by decide))) rfl rfl hl.1 rfl (lv_room (Nat.le_of_ble_eq_true rfl)) dX10_sort_26 ⟨(Nat.le_of_ble_eq_true rfl), (Nat.le_of_ble_eq_true rfl)⟩) hP hD hS hA hR0 hn [] [0, 1, 2] rfl rfl (by decide) (by decide) (fun H locs hP hD hS hR => ?_)
              have hP : va_P D vwCl [(a_this_entryFamily, .inl (cI, 10, .inl b14_c_this_entryFamily)), (a_this_entryOf, .inl (cI, 40, .inl b14_c_this_entryOf)), (a_this_entryRank, .inl (cJ, 10, .inr (.inl b14_c_this_entryRank)))] H := hP
              have hD : va_D A [(a_this_entryFamily, .inl (cI, 10, .inl b14_c_this_entryFamily)), (a_this_entryOf, .inl (cI, 40, .inl b14_c_this_entryOf)), (a_this_entryRank, .inl (cJ, 10, .inr (.inl b14_c_this_entryRank)))] := hD
              have B39 : ∀ (b39_l1 : Int32) (b39_c_this_entryFamily : Nat → Int32) (b39_c_this_entryOf : Nat → Int32) (b39_c_this_entryRank : Nat → Int64), fX10_sort_B39 b14_l3 (rk_it5 (fX10_sort_L14 f_this_entryMany b4_l2 (rk_it5 (fX10_sort_L4 f_this_entryMany) n4)) n14) b39_l1 b39_c_this_entryFamily b39_c_this_entryOf b39_c_this_entryRank = some r0 → ∀ (H : Heap) (locs : List Loc), va_P D vwCl [(a_this_entryFamily, .inl (cI, 10, .inl b39_c_this_entryFamily)), (a_this_entryOf, .inl (cI, 40, .inl b39_c_this_entryOf)), (a_this_entryRank, .inl (cJ, 10, .inr (.inl b39_c_this_entryRank)))] H → va_D A [(a_this_entryFamily, .inl (cI, 10, .inl b39_c_this_entryFamily)), (a_this_entryOf, .inl (cI, 40, .inl b39_c_this_entryOf)), (a_this_entryRank, .inl (cJ, 10, .inr (.inl b39_c_this_entryRank)))] → va_S A s.heap H locs → ∀ (ls : Array Slot), lv_has ls 4 [(0, .ref a_this), (1, .int b39_l1), (2, .int b4_l2), (3, .int b14_l3)] → W p l e rmX10_sort s m args below meth c H locs 0 0 Q (F0 m 39 ls []) := by
                intro b39_l1 b39_c_this_entryFamily b39_c_this_entryOf b39_c_this_entryRank h H locs hP hD hS ls hl
                unfold fX10_sort_B39 at h
                have hR := rk_keep hR0 hn hS
                refine lv_iinc (v := (b14_l3 + 1)) (lv' := [(3, .int (b14_l3 + 1)), (0, .ref a_this), (1, .int b39_l1), (2, .int b4_l2)]) hx hb dX10_sort_39 hl (k := 3) rfl rfl (by decide) rfl (fun ls hl => ?_)
                refine lv_goto (tgt := 14) hx hb dX10_sort_42 (by decide) ?_
                exact ih14 b39_l1 (b14_l3 + 1) b39_c_this_entryFamily b39_c_this_entryOf b39_c_this_entryRank h _ _ hP hD hS _ (lv_sub hl [1, 2, 3, 0] rfl)
              refine lv_if_eq (tgt := 39) hx hb dX10_sort_29 (by decide) (fun hc3 => ?_) (fun hc3 => ?_)
              · have h := rk_if hc3 h
                exact B39 b14_l1 b14_c_this_entryFamily b14_c_this_entryOf b14_c_this_entryRank h _ _ hP hD hS _ hl
              · have h := rk_nif hc3 h
                refine lv_aload_n hx hb dX10_sort_32 rfl (lv_at hl 0 rfl) ?_
                refine lv_iload_n hx hb dX10_sort_33 rfl (lv_at hl 3 rfl) ?_
                obtain ⟨r_34, hc_34, h⟩ := rk_bd h
                refine rk_v (wr := []) (va_runV (C := RX10) (As := [.int b14_l3]) (rest := []) hF (mtX10_exchange l D cI cJ cO PL _ a_this a_this_chosen a_this_factorial a_this_catalan a_this_parted a_this_closed f_this_now a_this_of a_this_buffer a_this_made a_this_stackOne a_this_stackOther a_this_stackLong a_this_left f_this_entryMany a_this_entryFamily a_this_entryOf a_this_entryRank b14_c_this_entryFamily b14_c_this_entryOf b14_c_this_entryRank b14_l3 r_34 hc_34) (cwV 1 htc (rk_gV w_5_123 w_5_125 ws_80 w_1_7 w_5_126) rfl rfl rfl (by decide +kernel) ⟨(Nat.le_of_ble_eq_true rfl), (Nat.le_of_ble_eq_true rfl)⟩) (rk_preV (va_recv hV.1 hR (ci := 9) (q0 := 0) rfl rfl) (rk_preS hP hD hS hR hn hPL hnl hV [0, 1, 2] [(false, 0)] rfl (by decide) rfl (by decide))) rfl rfl hl.1 rfl (lv_room (Nat.le_of_ble_eq_true rfl)) dX10_sort_34 ⟨(Nat.le_of_ble_eq_true rfl), (Nat.le_of_ble_eq_true rfl)⟩) hP hD hS hA hR0 hn [0, 1, 2] [] rfl rfl (by decide) (by decide) (fun H locs hP hD hS hR => ?_)
                have hP : va_P D vwCl [(a_this_entryFamily, .inl (cI, 10, .inl r_34.1)), (a_this_entryOf, .inl (cI, 40, .inl r_34.2.1)), (a_this_entryRank, .inl (cJ, 10, .inr (.inl r_34.2.2)))] H := hP
                have hD : va_D A [(a_this_entryFamily, .inl (cI, 10, .inl r_34.1)), (a_this_entryOf, .inl (cI, 40, .inl r_34.2.1)), (a_this_entryRank, .inl (cJ, 10, .inr (.inl r_34.2.2)))] := hD
                refine lv_iconst (v := 1) hx hb dX10_sort_37 (by decide) ?_
                refine lv_istore_n (lv' := [(1, .int (1 : Int32)), (0, .ref a_this), (2, .int b4_l2), (3, .int b14_l3)]) hx hb dX10_sort_38 rfl hl (by decide) rfl (fun ls hl => ?_)
                exact B39 (1 : Int32) r_34.1 r_34.2.1 r_34.2.2 h _ _ hP hD hS _ (lv_sub hl [1, 0, 2, 3] rfl)
        exact L14 FU b4_l1 (0 : Int32) b4_c_this_entryFamily b4_c_this_entryOf b4_c_this_entryRank h _ _ hP hD hS _ (lv_sub hl [1, 2, 3, 0] rfl)
  exact L4 FU (0 : Int32) (0 : Int32) c_this_entryFamily c_this_entryOf c_this_entryRank h _ _ hP hD hS _ (lv_sub hl [2, 1, 0] rfl)
set_option maxHeartbeats 4000000 in
set_option maxRecDepth 100000 in
theorem vr_turn {p : Program} {l : Launch} {e : Env} {R : Room} {s : State} {m : MethodId} {args : Array Value} {below : List Frame} {meth : Method} {c : Code} {H : Heap} {locs : List Loc} {cells slots : Nat} {cc : ByteArray} {nL : Nat} {own : String} {index : Nat} {g : JFrame} {As rest : List Value} (hF : CallFix p m c cc nL s args rk_c own) (htc : ∀ w ∈ rk_c, w.before args s = true) {D : va_G} {cI cJ cO : ClassId} (hV : rk_V D (rk_TY cI cJ cO) s) (hlk : Cond.methodLink own index ⟨"EnumerativeCoder$Family", "turn", "([I[ILEnumerativeCoder$Desk;)V"⟩ ∈ rk_c) (hu : () = ()) (PL : va_W) (a_p2 : Nat) (c_p2 : Nat → Int32) (a_this : Nat) (F_this : Fm) (a_p1 : Nat) (c_p1 : Nat → Int32) (a_p3 : Nat) (a_p3_binomials : Nat) (a_p3_partitionCounts : Nat) (a_p3_treeCounts : Nat) (a_p3_sizes : Nat) (a_p3_starts : Nat) (a_p3_ranks : Nat) (a_p3_letters : Nat) (c_p3_sizes : Nat → Int32) (c_p3_starts : Nat → Int32) (r0 : (Nat → Int32) × (Nat → Int32) × (Nat → Int32)) (h : v_turn c_p2 F_this c_p1 c_p3_sizes c_p3_starts = some r0) (hcell : va_at D vwCl (a_this, rk_fam F_this) H) (hp : PreS s H (va_Pc (.ref a_this :: As) (rk_B D (rk_TY cI cJ cO) [(a_p2, .inl (cI, 60, .inl c_p2)), (a_p3_sizes, .inl (cI, 60, .inl c_p3_sizes)), (a_p3_starts, .inl (cI, 60, .inl c_p3_starts))] [(a_this, rk_fam F_this), (a_p1, .inl (cI, 60, .inl c_p1)), (a_p3, .inr (2, [.ref a_p3_binomials, .ref a_p3_partitionCounts, .ref a_p3_treeCounts, .ref a_p3_sizes, .ref a_p3_starts, .ref a_p3_ranks, .ref a_p3_letters]))] PL H.size)) (.ref a_this :: As)) (hg : g.method = m) (hn : As.length = 3) (hsize : g.locals.size = nL) (hstack : g.stack = As.reverse ++ .ref a_this :: rest) (hW : 2 * g.monitorRoom + (rest.map fun v => v.category).sum ≤ 8) (hdg : decode cc g.pc = .ok (.invokevirtual index, 3)) (hf : cells + 0 ≤ R.cells ∧ slots + 0 ≤ R.slots) (hfr : 4 ≤ R.frames) (hlo : 97 ≤ R.locals) (hAs : As = [.ref a_p1, .ref a_p2, .ref a_p3]) : va_Run p l e R s m args below meth c H locs cells slots 0 0 g rest (rk_Qv D [(a_p2, .inl (cI, 60, .inl r0.1)), (a_p3_sizes, .inl (cI, 60, .inl r0.2.1)), (a_p3_starts, .inl (cI, 60, .inl r0.2.2))] [(a_p2, .inl (cI, 60, .inl c_p2)), (a_p3_sizes, .inl (cI, 60, .inl c_p3_sizes)), (a_p3_starts, .inl (cI, 60, .inl c_p3_starts))] H.size (Value.ref a_this :: As).toArray) (va_A [(a_p2, .inl (cI, 60, .inl c_p2)), (a_p3_sizes, .inl (cI, 60, .inl c_p3_sizes)), (a_p3_starts, .inl (cI, 60, .inl c_p3_starts))] H.size) := by
  subst hAs
  unfold v_turn at h
  by_cases k0 : F_this.1 = 0
  · have h := rk_if k0 h
    have hfam := rk_fam_0 k0
    rw [hfam] at hp hcell
    exact va_runU (C := RX6) (owner := "EnumerativeCoder$Family") hF (mtX6_turn l D cI cJ cO PL H.size a_p2 c_p2 a_this F_this.2.1 F_this.2.2.1 F_this.2.2.2.1 F_this.2.2.2.2.1 F_this.2.2.2.2.2.1 a_p1 c_p1 a_p3 a_p3_binomials a_p3_partitionCounts a_p3_treeCounts a_p3_sizes a_p3_starts a_p3_ranks a_p3_letters c_p3_sizes c_p3_starts r0 h) (va_cwA 3 htc (rk_gU hlk w_3_93 w_3_103 w_3_104 w_1_6 w_3_105) rfl rfl rfl (hV.2.1 _ nw_3_92) (by decide +kernel) ⟨Nat.le_trans (Nat.le_of_ble_eq_true rfl) hfr, Nat.le_trans (Nat.le_of_ble_eq_true rfl) hlo⟩) (rk_preV (va_recv hV.1 (rk_oneP hcell) (ci := 5) (q0 := 0) rfl rfl) hp) hg hn hsize hstack hW hdg hf
  have h := rk_nif k0 h
  by_cases k1 : F_this.1 = 1
  · have h := rk_if k1 h
    have hfam := rk_fam_1 k1
    rw [hfam] at hp hcell
    exact va_runU (C := RX5) (owner := "EnumerativeCoder$Family") hF (mtX5_turn l D cI cJ cO PL H.size a_p2 c_p2 a_this F_this.2.1 F_this.2.2.1 F_this.2.2.2.1 F_this.2.2.2.2.1 a_p1 c_p1 a_p3 a_p3_binomials a_p3_partitionCounts a_p3_treeCounts a_p3_sizes a_p3_starts a_p3_ranks a_p3_letters c_p3_sizes c_p3_starts r0 h) (va_cwA 3 htc (rk_gU hlk w_3_93 w_3_100 w_3_101 w_1_9 w_3_102) rfl rfl rfl (hV.2.1 _ nw_3_92) (by decide +kernel) ⟨Nat.le_trans (Nat.le_of_ble_eq_true rfl) hfr, Nat.le_trans (Nat.le_of_ble_eq_true rfl) hlo⟩) (rk_preV (va_recv hV.1 (rk_oneP hcell) (ci := 4) (q0 := 0) rfl rfl) hp) hg hn hsize hstack hW hdg hf
  have h := rk_nif k1 h
  by_cases k2 : F_this.1 = 2
  · have h := rk_if k2 h
    have hfam := rk_fam_2 k2
    rw [hfam] at hp hcell
    exact va_runU (C := RX8) (owner := "EnumerativeCoder$Family") hF (mtX8_turn l D cI cJ cO PL H.size a_p2 c_p2 a_this F_this.2.1 F_this.2.2.1 F_this.2.2.2.1 F_this.2.2.2.2.1 F_this.2.2.2.2.2.1 a_p1 c_p1 a_p3 a_p3_binomials a_p3_partitionCounts a_p3_treeCounts a_p3_sizes a_p3_starts a_p3_ranks a_p3_letters c_p3_sizes c_p3_starts r0 h) (va_cwA 3 htc (rk_gU hlk w_3_93 w_3_109 w_3_110 w_1_11 w_3_111) rfl rfl rfl (hV.2.1 _ nw_3_92) (by decide +kernel) ⟨Nat.le_trans (Nat.le_of_ble_eq_true rfl) hfr, Nat.le_trans (Nat.le_of_ble_eq_true rfl) hlo⟩) (rk_preV (va_recv hV.1 (rk_oneP hcell) (ci := 7) (q0 := 0) rfl rfl) hp) hg hn hsize hstack hW hdg hf
  have h := rk_nif k2 h
  by_cases k3 : F_this.1 = 3
  · have h := rk_if k3 h
    have hfam := rk_fam_3 k3
    rw [hfam] at hp hcell
    exact va_runU (C := RX7) (owner := "EnumerativeCoder$Family") hF (mtX7_turn l D cI cJ cO PL H.size a_p2 c_p2 a_this F_this.2.1 F_this.2.2.1 F_this.2.2.2.1 a_p1 c_p1 a_p3 a_p3_binomials a_p3_partitionCounts a_p3_treeCounts a_p3_sizes a_p3_starts a_p3_ranks a_p3_letters c_p3_sizes c_p3_starts r0 h) (va_cwA 3 htc (rk_gU hlk w_3_93 w_3_106 w_3_107 w_1_10 w_3_108) rfl rfl rfl (hV.2.1 _ nw_3_92) (by decide +kernel) ⟨Nat.le_trans (Nat.le_of_ble_eq_true rfl) hfr, Nat.le_trans (Nat.le_of_ble_eq_true rfl) hlo⟩) (rk_preV (va_recv hV.1 (rk_oneP hcell) (ci := 6) (q0 := 0) rfl rfl) hp) hg hn hsize hstack hW hdg hf
  have h := rk_nif k3 h
  by_cases k4 : F_this.1 = 4
  · have h := rk_if k4 h
    have hfam := rk_fam_4 k4
    rw [hfam] at hp hcell
    exact va_runU (C := RX4) (owner := "EnumerativeCoder$Family") hF (mtX4_turn l D cI cJ cO PL H.size a_p2 c_p2 a_this F_this.2.1 F_this.2.2.1 F_this.2.2.2.1 F_this.2.2.2.2.1 a_p1 c_p1 a_p3 a_p3_binomials a_p3_partitionCounts a_p3_treeCounts a_p3_sizes a_p3_starts a_p3_ranks a_p3_letters c_p3_sizes c_p3_starts r0 h) (va_cwA 3 htc (rk_gU hlk w_3_93 w_3_97 w_3_98 w_1_12 w_3_99) rfl rfl rfl (hV.2.1 _ nw_3_92) (by decide +kernel) ⟨Nat.le_trans (Nat.le_of_ble_eq_true rfl) hfr, Nat.le_trans (Nat.le_of_ble_eq_true rfl) hlo⟩) (rk_preV (va_recv hV.1 (rk_oneP hcell) (ci := 3) (q0 := 0) rfl rfl) hp) hg hn hsize hstack hW hdg hf
  have h := rk_nif k4 h
  have hfam := rk_fam_5 k0 k1 k2 k3 k4
  rw [hfam] at hp hcell
  exact va_runU (C := RX1) (owner := "EnumerativeCoder$Family") hF (mtX1_turn l D cI cJ cO PL H.size a_p2 c_p2 a_this F_this.2.1 F_this.2.2.1 F_this.2.2.2.1 F_this.2.2.2.2.1 F_this.2.2.2.2.2.1 F_this.2.2.2.2.2.2.1 F_this.2.2.2.2.2.2.2 a_p1 c_p1 a_p3 a_p3_binomials a_p3_partitionCounts a_p3_treeCounts a_p3_sizes a_p3_starts a_p3_ranks a_p3_letters c_p3_sizes c_p3_starts r0 h) (va_cwA 3 htc (rk_gU hlk w_3_93 w_3_94 w_3_95 w_1_8 w_3_96) rfl rfl rfl (hV.2.1 _ nw_3_92) (by decide +kernel) ⟨Nat.le_trans (Nat.le_of_ble_eq_true rfl) hfr, Nat.le_trans (Nat.le_of_ble_eq_true rfl) hlo⟩) (rk_preV (va_recv hV.1 (rk_oneP hcell) (ci := 1) (q0 := 0) rfl rfl) hp) hg hn hsize hstack hW hdg hf
set_option maxHeartbeats 4000000 in
set_option maxRecDepth 100000 in
theorem mtX9_transform_s (l : Launch) (D : va_G) (cI cJ cO : ClassId) (PL : va_W) (sz : Nat) (a_this : Nat) (a_this_buffer : Nat) (a_this_draft : Nat) (a_this_desk : Nat) (a_this_archive : Nat) (a_this_present : Nat) (c_this_buffer : Nat → Int32) (c_this_draft : Nat → Int32) (a_this_desk_binomials : Nat) (a_this_desk_partitionCounts : Nat) (a_this_desk_treeCounts : Nat) (a_this_desk_sizes : Nat) (a_this_desk_starts : Nat) (a_this_desk_ranks : Nat) (a_this_desk_letters : Nat) (F_this_present : Fm) (c_this_desk_letters : Nat → Int32) (c_this_desk_sizes : Nat → Int32) (c_this_desk_starts : Nat → Int32) (r0 : Int32 × Option Fm × (Nat → Int32) × (Nat → Int32) × (Nat → Int32) × (Nat → Int32) × (Nat → Int32)) (h : fX9_transform_s c_this_buffer c_this_draft F_this_present c_this_desk_letters c_this_desk_sizes c_this_desk_starts = some r0) (hkind : F_this_present.1 = 0) : Met l yX9_transform (rk_w yX9_transform cX9_transform 4 (some .int)) rmX9_transform_s (va_Pc [.ref a_this] (rk_B D (rk_TY cI cJ cO) [(a_this, .inr (8, [.ref a_this_buffer, .ref a_this_draft, .ref a_this_desk, .ref a_this_archive, .ref a_this_present])), (a_this_buffer, .inl (cI, 60, .inl c_this_buffer)), (a_this_desk_letters, .inl (cI, 4, .inl c_this_desk_letters)), (a_this_desk_sizes, .inl (cI, 60, .inl c_this_desk_sizes)), (a_this_desk_starts, .inl (cI, 60, .inl c_this_desk_starts)), (a_this_draft, .inl (cI, 60, .inl c_this_draft))] [(a_this_desk, .inr (2, [.ref a_this_desk_binomials, .ref a_this_desk_partitionCounts, .ref a_this_desk_treeCounts, .ref a_this_desk_sizes, .ref a_this_desk_starts, .ref a_this_desk_ranks, .ref a_this_desk_letters])), (a_this_present, rk_fam F_this_present)] PL sz)) (rk_Qie r0.1 D (fun q => ([(a_this, .inr (8, [.ref a_this_buffer, .ref a_this_draft, .ref a_this_desk, .ref a_this_archive, .ref (rk_pn r0.2.1 a_this_present (q 0))])), (a_this_buffer, .inl (cI, 60, .inl r0.2.2.1)), (a_this_desk_letters, .inl (cI, 4, .inl r0.2.2.2.1)), (a_this_desk_sizes, .inl (cI, 60, .inl r0.2.2.2.2.1)), (a_this_desk_starts, .inl (cI, 60, .inl r0.2.2.2.2.2.1)), (a_this_draft, .inl (cI, 60, .inl r0.2.2.2.2.2.2))] ++ rk_nc r0.2.1 (q 0))) [(a_this, .inr (8, [.ref a_this_buffer, .ref a_this_draft, .ref a_this_desk, .ref a_this_archive, .ref a_this_present])), (a_this_buffer, .inl (cI, 60, .inl c_this_buffer)), (a_this_desk_letters, .inl (cI, 4, .inl c_this_desk_letters)), (a_this_desk_sizes, .inl (cI, 60, .inl c_this_desk_sizes)), (a_this_desk_starts, .inl (cI, 60, .inl c_this_desk_starts)), (a_this_draft, .inl (cI, 60, .inl c_this_draft))] sz) 1 5 (va_A [(a_this, .inr (8, [.ref a_this_buffer, .ref a_this_draft, .ref a_this_desk, .ref a_this_archive, .ref a_this_present])), (a_this_buffer, .inl (cI, 60, .inl c_this_buffer)), (a_this_desk_letters, .inl (cI, 4, .inl c_this_desk_letters)), (a_this_desk_sizes, .inl (cI, 60, .inl c_this_desk_sizes)), (a_this_desk_starts, .inl (cI, 60, .inl c_this_desk_starts)), (a_this_draft, .inl (cI, 60, .inl c_this_draft))] sz) := by
  refine rk_metie (y := yX9_transform) (cc := cX9_transform) (maxL := 4) (av := [.ref a_this]) (sz := sz) h (fun x : Int32 × Option Fm × (Nat → Int32) × (Nat → Int32) × (Nat → Int32) × (Nat → Int32) × (Nat → Int32) => x.1) (fun x q => ([(a_this, .inr (8, [.ref a_this_buffer, .ref a_this_draft, .ref a_this_desk, .ref a_this_archive, .ref (rk_pn x.2.1 a_this_present (q 0))])), (a_this_buffer, .inl (cI, 60, .inl x.2.2.1)), (a_this_desk_letters, .inl (cI, 4, .inl x.2.2.2.1)), (a_this_desk_sizes, .inl (cI, 60, .inl x.2.2.2.2.1)), (a_this_desk_starts, .inl (cI, 60, .inl x.2.2.2.2.2.1)), (a_this_draft, .inl (cI, 60, .inl x.2.2.2.2.2.2))] ++ rk_nc x.2.1 (q 0))) (by decide) (Nat.le_of_ble_eq_true rfl) ?_
  intro p e s m args below meth c A ls Q hret hname hF hP hD hA hV hR0 hn hPL hnl hl h hS
  have hx := hF.1
  have hb := hF.2.1
  have hml := hF.2.2.1
  have hown : s.vm.findClass RX9 = some m.cls := hF.2.2.2.1
  have htc := hF.2.2.2.2
  have hP : va_P D vwCl [(a_this, .inr (8, [.ref a_this_buffer, .ref a_this_draft, .ref a_this_desk, .ref a_this_archive, .ref a_this_present])), (a_this_buffer, .inl (cI, 60, .inl c_this_buffer)), (a_this_desk_letters, .inl (cI, 4, .inl c_this_desk_letters)), (a_this_desk_sizes, .inl (cI, 60, .inl c_this_desk_sizes)), (a_this_desk_starts, .inl (cI, 60, .inl c_this_desk_starts)), (a_this_draft, .inl (cI, 60, .inl c_this_draft))] s.heap := hP
  have hD : va_D A [(a_this, .inr (8, [.ref a_this_buffer, .ref a_this_draft, .ref a_this_desk, .ref a_this_archive, .ref a_this_present])), (a_this_buffer, .inl (cI, 60, .inl c_this_buffer)), (a_this_desk_letters, .inl (cI, 4, .inl c_this_desk_letters)), (a_this_desk_sizes, .inl (cI, 60, .inl c_this_desk_sizes)), (a_this_desk_starts, .inl (cI, 60, .inl c_this_desk_starts)), (a_this_draft, .inl (cI, 60, .inl c_this_draft))] := hD
  have hR0 : va_P D vwCl [(a_this_desk, .inr (2, [.ref a_this_desk_binomials, .ref a_this_desk_partitionCounts, .ref a_this_desk_treeCounts, .ref a_this_desk_sizes, .ref a_this_desk_starts, .ref a_this_desk_ranks, .ref a_this_desk_letters])), (a_this_present, rk_fam F_this_present)] s.heap := hR0
  have hR := hR0
  have hl : lv_has ls 4 [(0, .ref a_this)] := hl
  unfold fX9_transform_s at h
  refine lv_aload_n hx hb dX9_transform_0 rfl (lv_at hl 0 rfl) ?_
  obtain ⟨r_1, hc_1, h⟩ := rk_bd h
  refine rk_i (wr := [(a_this, .inr (8, [.ref a_this_buffer, .ref a_this_draft, .ref a_this_desk, .ref a_this_archive, .ref a_this_present])), (a_this_buffer, .inl (cI, 60, .inl c_this_buffer)), (a_this_desk_starts, .inl (cI, 60, .inl c_this_desk_starts)), (a_this_draft, .inl (cI, 60, .inl c_this_draft))]) (va_runV (C := RX9) (As := []) (rest := []) hF (mtX9_holdsObject l D cI cJ cO PL _ a_this a_this_buffer a_this_draft a_this_desk a_this_archive a_this_present c_this_buffer a_this_desk_binomials a_this_desk_partitionCounts a_this_desk_treeCounts a_this_desk_sizes a_this_desk_starts a_this_desk_ranks a_this_desk_letters F_this_present c_this_desk_letters c_this_desk_sizes r_1 hc_1) (cwV 0 htc (rk_gV w_2_219 w_2_221 ws_15 w_1_1 w_2_222) rfl rfl rfl (by decide +kernel) ⟨(Nat.le_of_ble_eq_true rfl), (Nat.le_of_ble_eq_true rfl)⟩) (rk_preV (va_recv hV.1 hP (ci := 8) (q0 := 0) rfl rfl) (rk_preS hP hD hS hR hn hPL hnl hV [2, 3] [(true, 0), (true, 1), (false, 0), (false, 1)] rfl (by decide) rfl (by decide))) rfl rfl hl.1 rfl (lv_room (Nat.le_of_ble_eq_true rfl)) dX9_transform_1 ⟨(Nat.le_of_ble_eq_true rfl), (Nat.le_of_ble_eq_true rfl)⟩) hP hD hS hA hR0 hn [2, 3] [0, 1, 4, 5] rfl rfl (by decide) (by decide) (fun H locs hP hD hS hR => ?_)
  have hP : va_P D vwCl [(a_this, .inr (8, [.ref a_this_buffer, .ref a_this_draft, .ref a_this_desk, .ref a_this_archive, .ref a_this_present])), (a_this_buffer, .inl (cI, 60, .inl c_this_buffer)), (a_this_desk_starts, .inl (cI, 60, .inl c_this_desk_starts)), (a_this_draft, .inl (cI, 60, .inl c_this_draft)), (a_this_desk_letters, .inl (cI, 4, .inl r_1.2.1)), (a_this_desk_sizes, .inl (cI, 60, .inl r_1.2.2))] H := hP
  have hD : va_D A [(a_this, .inr (8, [.ref a_this_buffer, .ref a_this_draft, .ref a_this_desk, .ref a_this_archive, .ref a_this_present])), (a_this_buffer, .inl (cI, 60, .inl c_this_buffer)), (a_this_desk_starts, .inl (cI, 60, .inl c_this_desk_starts)), (a_this_draft, .inl (cI, 60, .inl c_this_draft)), (a_this_desk_letters, .inl (cI, 4, .inl r_1.2.1)), (a_this_desk_sizes, .inl (cI, 60, .inl r_1.2.2))] := hD
  refine lv_if_ne (tgt := 10) hx hb dX9_transform_4 (by decide) (fun hc1 => ?_) (fun hc1 => ?_)
  · have h := rk_if hc1 h
    refine lv_aload_n hx hb dX9_transform_10 rfl (lv_at hl 0 rfl) ?_
    refine va_get (D := D) (ci := 8) (v := .ref a_this_present) (C := RX9) (T := TX9) (N := 5) hx hb htc inX9 hown hV.1 hP 0 rfl rfl 4 (by decide) (htc _ w_1_156) (fun _ h9 => h9) rfl dX9_transform_11 ?_
    obtain ⟨r_14, hc_14, h⟩ := rk_bd h
    have hfam := rk_fam_0 hkind
    refine rk_r (wr := [(a_this, .inr (8, [.ref a_this_buffer, .ref a_this_draft, .ref a_this_desk, .ref a_this_archive, .ref a_this_present])), (a_this_buffer, .inl (cI, 60, .inl c_this_buffer)), (a_this_desk_starts, .inl (cI, 60, .inl c_this_desk_starts)), (a_this_draft, .inl (cI, 60, .inl c_this_draft)), (a_this_desk_letters, .inl (cI, 4, .inl r_1.2.1)), (a_this_desk_sizes, .inl (cI, 60, .inl r_1.2.2))]) (va_runU (C := RX6) (owner := "EnumerativeCoder$Family") (As := []) (rest := []) hF (mtX6_turnedFamily l D cI cJ cO PL _ a_this_present F_this_present.2.1 F_this_present.2.2.1 F_this_present.2.2.2.1 F_this_present.2.2.2.2.1 F_this_present.2.2.2.2.2.1 r_14 hc_14) (va_cwO 0 htc (rk_gO w_3_77 w_3_79 w_3_78 w_3_83 w_3_84 w_1_6 w_3_85) rfl rfl rfl w_3_90 (by decide +kernel) ⟨(Nat.le_of_ble_eq_true rfl), (Nat.le_of_ble_eq_true rfl)⟩) (rk_preV (va_recv hV.1 (rk_fcell hR 1 hfam) (ci := 5) (q0 := 0) rfl rfl) (rk_preS (wc := []) (rc := [(a_this_present, .inr (5, [.int F_this_present.2.1, .int F_this_present.2.2.1, .long F_this_present.2.2.2.1, .int F_this_present.2.2.2.2.1, .int F_this_present.2.2.2.2.2.1]))]) hP hD hS hR hn hPL hnl hV [] [(false, 1)] rfl (by decide) (by simp only [List.map_cons, List.map_nil]; rw [← hfam]; rfl) (by decide))) rfl rfl hl.1 rfl (lv_room (Nat.le_of_ble_eq_true rfl)) dX9_transform_14 ⟨(Nat.le_of_ble_eq_true rfl), (Nat.le_of_ble_eq_true rfl)⟩) hP hD hS hA hR0 hn [] [0, 1, 2, 3, 4, 5] rfl rfl (by decide) (by decide) (fun q_14 H locs hP hD hS hR => ?_)
    have hP : va_P D vwCl [(a_this, .inr (8, [.ref a_this_buffer, .ref a_this_draft, .ref a_this_desk, .ref a_this_archive, .ref a_this_present])), (a_this_buffer, .inl (cI, 60, .inl c_this_buffer)), (a_this_desk_starts, .inl (cI, 60, .inl c_this_desk_starts)), (a_this_draft, .inl (cI, 60, .inl c_this_draft)), (a_this_desk_letters, .inl (cI, 4, .inl r_1.2.1)), (a_this_desk_sizes, .inl (cI, 60, .inl r_1.2.2)), (q_14, rk_fam r_14)] H := hP
    have hD : va_D A [(a_this, .inr (8, [.ref a_this_buffer, .ref a_this_draft, .ref a_this_desk, .ref a_this_archive, .ref a_this_present])), (a_this_buffer, .inl (cI, 60, .inl c_this_buffer)), (a_this_desk_starts, .inl (cI, 60, .inl c_this_desk_starts)), (a_this_draft, .inl (cI, 60, .inl c_this_draft)), (a_this_desk_letters, .inl (cI, 4, .inl r_1.2.1)), (a_this_desk_sizes, .inl (cI, 60, .inl r_1.2.2)), (q_14, rk_fam r_14)] := hD
    refine lv_astore_n (lv' := [(1, .ref q_14), (0, .ref a_this)]) hx hb dX9_transform_17 rfl hl (by decide) rfl (fun ls hl => ?_)
    refine lv_aload_n hx hb dX9_transform_18 rfl (lv_at hl 1 rfl) ?_
    refine va_get (D := D) (ci := 8) (v := .ref a_this_present) (C := RX9) (T := TX9) (N := 5) hx hb htc inX9 hown hV.1 hP 0 rfl rfl 4 (by decide) (htc _ w_1_156) (fun _ h9 => h9) rfl dX9_transform_19 ?_
    refine lv_aload_n hx hb dX9_transform_22 rfl (lv_at hl 1 rfl) ?_
    refine va_get (D := D) (ci := 8) (v := .ref a_this_buffer) (C := RX9) (T := TX9) (N := 5) hx hb htc inX9 hown hV.1 hP 0 rfl rfl 0 (by decide) (htc _ w_1_152) (fun _ h9 => h9) rfl dX9_transform_23 ?_
    refine lv_aload_n hx hb dX9_transform_26 rfl (lv_at hl 1 rfl) ?_
    refine va_get (D := D) (ci := 8) (v := .ref a_this_draft) (C := RX9) (T := TX9) (N := 5) hx hb htc inX9 hown hV.1 hP 0 rfl rfl 1 (by decide) (htc _ w_1_153) (fun _ h9 => h9) rfl dX9_transform_27 ?_
    refine lv_aload_n hx hb dX9_transform_30 rfl (lv_at hl 1 rfl) ?_
    refine va_get (D := D) (ci := 8) (v := .ref a_this_desk) (C := RX9) (T := TX9) (N := 5) hx hb htc inX9 hown hV.1 hP 0 rfl rfl 2 (by decide) (htc _ w_1_154) (fun _ h9 => h9) rfl dX9_transform_31 ?_
    obtain ⟨r_34, hc_34, h⟩ := rk_bd h
    refine rk_v (wr := [(a_this, .inr (8, [.ref a_this_buffer, .ref a_this_draft, .ref a_this_desk, .ref a_this_archive, .ref a_this_present])), (a_this_buffer, .inl (cI, 60, .inl c_this_buffer)), (a_this_desk_letters, .inl (cI, 4, .inl r_1.2.1)), (q_14, rk_fam r_14)]) (vr_turn (As := [.ref a_this_buffer, .ref a_this_draft, .ref a_this_desk]) (rest := []) hF htc hV w_3_91 rfl PL a_this_draft c_this_draft a_this_present F_this_present a_this_buffer c_this_buffer a_this_desk a_this_desk_binomials a_this_desk_partitionCounts a_this_desk_treeCounts a_this_desk_sizes a_this_desk_starts a_this_desk_ranks a_this_desk_letters r_1.2.2 c_this_desk_starts r_34 hc_34 (hR 1 _ rfl) (rk_preS hP hD hS hR hn hPL hnl hV [3, 5, 2] [(false, 1), (true, 1), (false, 0)] rfl (by decide) rfl (by decide)) rfl rfl hl.1 rfl (lv_room (Nat.le_of_ble_eq_true rfl)) dX9_transform_34 ⟨(Nat.le_of_ble_eq_true rfl), (Nat.le_of_ble_eq_true rfl)⟩ (Nat.le_of_ble_eq_true rfl) (Nat.le_of_ble_eq_true rfl) rfl) hP hD hS hA hR0 hn [3, 5, 2] [0, 1, 4, 6] rfl rfl (by decide) (by decide) (fun H locs hP hD hS hR => ?_)
    have hP : va_P D vwCl [(a_this, .inr (8, [.ref a_this_buffer, .ref a_this_draft, .ref a_this_desk, .ref a_this_archive, .ref a_this_present])), (a_this_buffer, .inl (cI, 60, .inl c_this_buffer)), (a_this_desk_letters, .inl (cI, 4, .inl r_1.2.1)), (q_14, rk_fam r_14), (a_this_draft, .inl (cI, 60, .inl r_34.1)), (a_this_desk_sizes, .inl (cI, 60, .inl r_34.2.1)), (a_this_desk_starts, .inl (cI, 60, .inl r_34.2.2))] H := hP
    have hD : va_D A [(a_this, .inr (8, [.ref a_this_buffer, .ref a_this_draft, .ref a_this_desk, .ref a_this_archive, .ref a_this_present])), (a_this_buffer, .inl (cI, 60, .inl c_this_buffer)), (a_this_desk_letters, .inl (cI, 4, .inl r_1.2.1)), (q_14, rk_fam r_14), (a_this_draft, .inl (cI, 60, .inl r_34.1)), (a_this_desk_sizes, .inl (cI, 60, .inl r_34.2.1)), (a_this_desk_starts, .inl (cI, 60, .inl r_34.2.2))] := hD
    refine lv_aload_n hx hb dX9_transform_37 rfl (lv_at hl 0 rfl) ?_
    refine lv_aload_n hx hb dX9_transform_38 rfl (lv_at hl 1 rfl) ?_
    refine va_get (D := D) (ci := 8) (v := .ref a_this_draft) (C := RX9) (T := TX9) (N := 5) hx hb htc inX9 hown hV.1 hP 0 rfl rfl 1 (by decide) (htc _ w_1_153) (fun _ h9 => h9) rfl dX9_transform_39 ?_
    refine lv_aload_n hx hb dX9_transform_42 rfl (lv_at hl 1 rfl) ?_
    refine va_get (D := D) (ci := 8) (v := .ref a_this_desk) (C := RX9) (T := TX9) (N := 5) hx hb htc inX9 hown hV.1 hP 0 rfl rfl 2 (by decide) (htc _ w_1_154) (fun _ h9 => h9) rfl dX9_transform_43 ?_
    obtain ⟨r_46, hc_46, h⟩ := rk_bd h
    refine rk_i (wr := [(a_this, .inr (8, [.ref a_this_buffer, .ref a_this_draft, .ref a_this_desk, .ref a_this_archive, .ref a_this_present])), (a_this_buffer, .inl (cI, 60, .inl c_this_buffer)), (q_14, rk_fam r_14), (a_this_draft, .inl (cI, 60, .inl r_34.1)), (a_this_desk_starts, .inl (cI, 60, .inl r_34.2.2))]) (vr_accepts (As := [.ref a_this_draft, .ref a_this_desk]) (rest := []) hF htc hV w_2_223 rfl PL q_14 r_14 a_this_draft r_34.1 a_this_desk a_this_desk_binomials a_this_desk_partitionCounts a_this_desk_treeCounts a_this_desk_sizes a_this_desk_starts a_this_desk_ranks a_this_desk_letters r_1.2.1 r_34.2.1 r_46 hc_46 (hP 3 _ rfl) (rk_preS hP hD hS hR hn hPL hnl hV [2, 5] [(true, 3), (true, 4), (false, 0)] rfl (by decide) rfl (by decide)) rfl rfl hl.1 rfl (lv_room (Nat.le_of_ble_eq_true rfl)) dX9_transform_46 ⟨(Nat.le_of_ble_eq_true rfl), (Nat.le_of_ble_eq_true rfl)⟩ (Nat.le_of_ble_eq_true rfl) (Nat.le_of_ble_eq_true rfl) rfl) hP hD hS hA hR0 hn [2, 5] [0, 1, 3, 4, 6] rfl rfl (by decide) (by decide) (fun H locs hP hD hS hR => ?_)
    have hP : va_P D vwCl [(a_this, .inr (8, [.ref a_this_buffer, .ref a_this_draft, .ref a_this_desk, .ref a_this_archive, .ref a_this_present])), (a_this_buffer, .inl (cI, 60, .inl c_this_buffer)), (q_14, rk_fam r_14), (a_this_draft, .inl (cI, 60, .inl r_34.1)), (a_this_desk_starts, .inl (cI, 60, .inl r_34.2.2)), (a_this_desk_letters, .inl (cI, 4, .inl r_46.2.1)), (a_this_desk_sizes, .inl (cI, 60, .inl r_46.2.2))] H := hP
    have hD : va_D A [(a_this, .inr (8, [.ref a_this_buffer, .ref a_this_draft, .ref a_this_desk, .ref a_this_archive, .ref a_this_present])), (a_this_buffer, .inl (cI, 60, .inl c_this_buffer)), (q_14, rk_fam r_14), (a_this_draft, .inl (cI, 60, .inl r_34.1)), (a_this_desk_starts, .inl (cI, 60, .inl r_34.2.2)), (a_this_desk_letters, .inl (cI, 4, .inl r_46.2.1)), (a_this_desk_sizes, .inl (cI, 60, .inl r_46.2.2))] := hD
    refine lv_if_ne (tgt := 55) hx hb dX9_transform_49 (by decide) (fun hc2 => ?_) (fun hc2 => ?_)
    · have h := rk_if hc2 h
      refine lv_aload_n hx hb dX9_transform_55 rfl (lv_at hl 0 rfl) ?_
      refine rk_fget_width hx hb htc hown hV.1 hP 2 rfl (htc _ w_1_135) dX9_transform_56 ?_
      refine lv_aload_n hx hb dX9_transform_59 rfl (lv_at hl 1 rfl) ?_
      refine va_get (D := D) (ci := 8) (v := .ref a_this_present) (C := RX9) (T := TX9) (N := 5) hx hb htc inX9 hown hV.1 hP 0 rfl rfl 4 (by decide) (htc _ w_1_156) (fun _ h9 => h9) rfl dX9_transform_60 ?_
      refine rk_fget_width hx hb htc hown hV.1 hR 1 rfl (htc _ w_1_135) dX9_transform_63 ?_
      have B74 : ∀ (b74_t0 : Int32), fX9_transform_s_B74 c_this_buffer r_14 r_34 r_46 b74_t0 = some r0 → ∀ (H : Heap) (locs : List Loc), va_P D vwCl [(a_this, .inr (8, [.ref a_this_buffer, .ref a_this_draft, .ref a_this_desk, .ref a_this_archive, .ref a_this_present])), (a_this_buffer, .inl (cI, 60, .inl c_this_buffer)), (q_14, rk_fam r_14), (a_this_draft, .inl (cI, 60, .inl r_34.1)), (a_this_desk_starts, .inl (cI, 60, .inl r_34.2.2)), (a_this_desk_letters, .inl (cI, 4, .inl r_46.2.1)), (a_this_desk_sizes, .inl (cI, 60, .inl r_46.2.2))] H → va_D A [(a_this, .inr (8, [.ref a_this_buffer, .ref a_this_draft, .ref a_this_desk, .ref a_this_archive, .ref a_this_present])), (a_this_buffer, .inl (cI, 60, .inl c_this_buffer)), (q_14, rk_fam r_14), (a_this_draft, .inl (cI, 60, .inl r_34.1)), (a_this_desk_starts, .inl (cI, 60, .inl r_34.2.2)), (a_this_desk_letters, .inl (cI, 4, .inl r_46.2.1)), (a_this_desk_sizes, .inl (cI, 60, .inl r_46.2.2))] → va_S A s.heap H locs → ∀ (ls : Array Slot), lv_has ls 4 [(0, .ref a_this), (1, .ref q_14)] → W p l e rmX9_transform_s s m args below meth c H locs 1 5 Q (F0 m 74 ls [.int b74_t0]) := by
        intro b74_t0 h H locs hP hD hS ls hl
        unfold fX9_transform_s_B74 at h
        have hR := rk_keep hR0 hn hS
        refine lv_istore_n (lv' := [(2, .int b74_t0), (0, .ref a_this), (1, .ref q_14)]) hx hb dX9_transform_74 rfl hl (by decide) rfl (fun ls hl => ?_)
        refine lv_aload_n hx hb dX9_transform_75 rfl (lv_at hl 1 rfl) ?_
        refine lv_aload_n hx hb dX9_transform_76 rfl (lv_at hl 2 rfl) ?_
        refine va_put (D := D) (ci := 8) (v := .ref q_14) (ty := (.object "EnumerativeCoder$Family")) (C := RX9) (T := TX9) (N := 5) hx hb htc inX9 tyX9 tyX9_ok nmX9 hown hV.1 hP hD hS 0 rfl rfl 4 (by decide) (htc _ w_1_156) (fun _ h9 => h9) rfl (by decide +kernel) rfl rfl (Nat.le_of_ble_eq_true rfl) dX9_transform_77 (fun H locs hP hD hS => ?_)
        have hP : va_P D vwCl [(a_this, .inr (8, [.ref a_this_buffer, .ref a_this_draft, .ref a_this_desk, .ref a_this_archive, .ref q_14])), (a_this_buffer, .inl (cI, 60, .inl c_this_buffer)), (q_14, rk_fam r_14), (a_this_draft, .inl (cI, 60, .inl r_34.1)), (a_this_desk_starts, .inl (cI, 60, .inl r_34.2.2)), (a_this_desk_letters, .inl (cI, 4, .inl r_46.2.1)), (a_this_desk_sizes, .inl (cI, 60, .inl r_46.2.2))] H := hP
        have hD : va_D A [(a_this, .inr (8, [.ref a_this_buffer, .ref a_this_draft, .ref a_this_desk, .ref a_this_archive, .ref q_14])), (a_this_buffer, .inl (cI, 60, .inl c_this_buffer)), (q_14, rk_fam r_14), (a_this_draft, .inl (cI, 60, .inl r_34.1)), (a_this_desk_starts, .inl (cI, 60, .inl r_34.2.2)), (a_this_desk_letters, .inl (cI, 4, .inl r_46.2.1)), (a_this_desk_sizes, .inl (cI, 60, .inl r_46.2.2))] := hD
        have hR := rk_keep hR0 hn hS
        refine lv_aload_n hx hb dX9_transform_80 rfl (lv_at hl 1 rfl) ?_
        obtain ⟨r_81, hc_81, h⟩ := rk_bd h
        refine rk_i (wr := [(a_this, .inr (8, [.ref a_this_buffer, .ref a_this_draft, .ref a_this_desk, .ref a_this_archive, .ref q_14])), (q_14, rk_fam r_14), (a_this_draft, .inl (cI, 60, .inl r_34.1)), (a_this_desk_starts, .inl (cI, 60, .inl r_34.2.2)), (a_this_desk_letters, .inl (cI, 4, .inl r_46.2.1)), (a_this_desk_sizes, .inl (cI, 60, .inl r_46.2.2))]) (va_runV (C := RX9) (As := []) (rest := []) hF (mtX9_takeDraft l D cI cJ cO PL _ a_this a_this_buffer a_this_draft a_this_desk a_this_archive q_14 c_this_buffer r_34.1 r_14 r_81 hc_81) (cwV 0 htc (rk_gV w_2_57 w_2_59 ws_12 w_1_1 w_2_60) rfl rfl rfl (by decide +kernel) ⟨(Nat.le_of_ble_eq_true rfl), (Nat.le_of_ble_eq_true rfl)⟩) (rk_preV (va_recv hV.1 hP (ci := 8) (q0 := 0) rfl rfl) (rk_preS hP hD hS hR hn hPL hnl hV [1] [(true, 0), (true, 3), (true, 2)] rfl (by decide) rfl (by decide))) rfl rfl hl.1 rfl (lv_room (Nat.le_of_ble_eq_true rfl)) dX9_transform_81 ⟨(Nat.le_of_ble_eq_true rfl), (Nat.le_of_ble_eq_true rfl)⟩) hP hD hS hA hR0 hn [1] [0, 2, 3, 4, 5, 6] rfl rfl (by decide) (by decide) (fun H locs hP hD hS hR => ?_)
        have hP : va_P D vwCl [(a_this, .inr (8, [.ref a_this_buffer, .ref a_this_draft, .ref a_this_desk, .ref a_this_archive, .ref q_14])), (q_14, rk_fam r_14), (a_this_draft, .inl (cI, 60, .inl r_34.1)), (a_this_desk_starts, .inl (cI, 60, .inl r_34.2.2)), (a_this_desk_letters, .inl (cI, 4, .inl r_46.2.1)), (a_this_desk_sizes, .inl (cI, 60, .inl r_46.2.2)), (a_this_buffer, .inl (cI, 60, .inl r_81.2))] H := hP
        have hD : va_D A [(a_this, .inr (8, [.ref a_this_buffer, .ref a_this_draft, .ref a_this_desk, .ref a_this_archive, .ref q_14])), (q_14, rk_fam r_14), (a_this_draft, .inl (cI, 60, .inl r_34.1)), (a_this_desk_starts, .inl (cI, 60, .inl r_34.2.2)), (a_this_desk_letters, .inl (cI, 4, .inl r_46.2.1)), (a_this_desk_sizes, .inl (cI, 60, .inl r_46.2.2)), (a_this_buffer, .inl (cI, 60, .inl r_81.2))] := hD
        refine lv_istore_n (lv' := [(3, .int r_81.1), (2, .int b74_t0), (0, .ref a_this), (1, .ref q_14)]) hx hb dX9_transform_84 rfl hl (by decide) rfl (fun ls hl => ?_)
        refine lv_iload_n hx hb dX9_transform_85 rfl (lv_at hl 1 rfl) ?_
        have B93 : fX9_transform_s_B93 r_14 r_34 r_46 r_81 = some r0 → ∀ (H : Heap) (locs : List Loc), va_P D vwCl [(a_this, .inr (8, [.ref a_this_buffer, .ref a_this_draft, .ref a_this_desk, .ref a_this_archive, .ref q_14])), (q_14, rk_fam r_14), (a_this_draft, .inl (cI, 60, .inl r_34.1)), (a_this_desk_starts, .inl (cI, 60, .inl r_34.2.2)), (a_this_desk_letters, .inl (cI, 4, .inl r_46.2.1)), (a_this_desk_sizes, .inl (cI, 60, .inl r_46.2.2)), (a_this_buffer, .inl (cI, 60, .inl r_81.2))] H → va_D A [(a_this, .inr (8, [.ref a_this_buffer, .ref a_this_draft, .ref a_this_desk, .ref a_this_archive, .ref q_14])), (q_14, rk_fam r_14), (a_this_draft, .inl (cI, 60, .inl r_34.1)), (a_this_desk_starts, .inl (cI, 60, .inl r_34.2.2)), (a_this_desk_letters, .inl (cI, 4, .inl r_46.2.1)), (a_this_desk_sizes, .inl (cI, 60, .inl r_46.2.2)), (a_this_buffer, .inl (cI, 60, .inl r_81.2))] → va_S A s.heap H locs → ∀ (ls : Array Slot), lv_has ls 4 [] → W p l e rmX9_transform_s s m args below meth c H locs 1 5 Q (F0 m 93 ls []) := by
          intro  h H locs hP hD hS ls hl
          unfold fX9_transform_s_B93 at h
          have hR := rk_keep hR0 hn hS
          refine lv_iconst (v := 1) hx hb dX9_transform_93 (by decide) ?_
          refine lv_goto (tgt := 98) hx hb dX9_transform_94 (by decide) ?_
          refine W.widen (k := 1) (n := 5) (Nat.le_of_ble_eq_true rfl) (Nat.le_of_ble_eq_true rfl) ?_
          exact hret ((1 : Int32), (some r_14), r_81.2, r_46.2.1, r_46.2.2, r_34.2.2, r_34.1) (rk_qs [q_14]) _ _ _ _ h dX9_transform_98 (hP.sub [0, 6, 4, 5, 3, 2, 1] rfl) (hD.sub [0, 6, 4, 5, 3, 2, 1] (by decide) rfl) hS
        refine lv_if_ne (tgt := 93) hx hb dX9_transform_86 (by decide) (fun hc3 => ?_) (fun hc3 => ?_)
        · have h := rk_if hc3 h
          exact B93  h _ _ hP hD hS _ (lv_sub hl [] rfl)
        · have h := rk_nnif hc3 h
          refine lv_iload_n hx hb dX9_transform_89 rfl (lv_at hl 0 rfl) ?_
          refine lv_if_eq (tgt := 97) hx hb dX9_transform_90 (by decide) (fun hc4 => ?_) (fun hc4 => ?_)
          · have h := rk_if hc4 h
            refine lv_iconst (v := 0) hx hb dX9_transform_97 (by decide) ?_
            refine W.widen (k := 1) (n := 5) (Nat.le_of_ble_eq_true rfl) (Nat.le_of_ble_eq_true rfl) ?_
            exact hret ((0 : Int32), (some r_14), r_81.2, r_46.2.1, r_46.2.2, r_34.2.2, r_34.1) (rk_qs [q_14]) _ _ _ _ h dX9_transform_98 (hP.sub [0, 6, 4, 5, 3, 2, 1] rfl) (hD.sub [0, 6, 4, 5, 3, 2, 1] (by decide) rfl) hS
          · have h := rk_nif hc4 h
            exact B93  h _ _ hP hD hS _ (lv_sub hl [] rfl)
      refine lv_icmp_eq (tgt := 73) hx hb dX9_transform_66 (by decide) (fun hc5 => ?_) (fun hc5 => ?_)
      · have h := rk_if hc5 h
        refine lv_iconst (v := 0) hx hb dX9_transform_73 (by decide) ?_
        exact B74 (0 : Int32) h _ _ hP hD hS _ (lv_sub hl [1, 0] rfl)
      · have h := rk_nif hc5 h
        refine lv_iconst (v := 1) hx hb dX9_transform_69 (by decide) ?_
        refine lv_goto (tgt := 74) hx hb dX9_transform_70 (by decide) ?_
        exact B74 (1 : Int32) h _ _ hP hD hS _ (lv_sub hl [1, 0] rfl)
    · have h := rk_nnif hc2 h
      refine lv_bipush (v := (-6)) hx hb dX9_transform_52 (by decide) ?_
      refine W.widen (k := 1) (n := 5) (Nat.le_of_ble_eq_true rfl) (Nat.le_of_ble_eq_true rfl) ?_
      exact hret ((-6 : Int32), (none : Option Fm), c_this_buffer, r_46.2.1, r_46.2.2, r_34.2.2, r_34.1) (rk_qs [q_14]) _ _ _ _ h dX9_transform_54 (hP.sub [0, 1, 5, 6, 4, 3] rfl) (hD.sub [0, 1, 5, 6, 4, 3] (by decide) rfl) hS
  · have h := rk_nnif hc1 h
    refine lv_bipush (v := (-2)) hx hb dX9_transform_7 (by decide) ?_
    refine W.widen (k := 1) (n := 5) (Nat.le_of_ble_eq_true rfl) (Nat.le_of_ble_eq_true rfl) ?_
    exact hret ((-2 : Int32), (none : Option Fm), c_this_buffer, r_1.2.1, r_1.2.2, c_this_desk_starts, c_this_draft) (rk_qs []) _ _ _ _ h dX9_transform_9 (hP.sub [0, 1, 4, 5, 2, 3] rfl) (hD.sub [0, 1, 4, 5, 2, 3] (by decide) rfl) hS
set_option maxHeartbeats 4000000 in
set_option maxRecDepth 100000 in
theorem mtX9_transform_o (l : Launch) (D : va_G) (cI cJ cO : ClassId) (PL : va_W) (sz : Nat) (a_this : Nat) (a_this_buffer : Nat) (a_this_draft : Nat) (a_this_desk : Nat) (a_this_archive : Nat) (a_this_present : Nat) (c_this_buffer : Nat → Int32) (c_this_draft : Nat → Int32) (a_this_desk_binomials : Nat) (a_this_desk_partitionCounts : Nat) (a_this_desk_treeCounts : Nat) (a_this_desk_sizes : Nat) (a_this_desk_starts : Nat) (a_this_desk_ranks : Nat) (a_this_desk_letters : Nat) (F_this_present : Fm) (c_this_desk_letters : Nat → Int32) (c_this_desk_sizes : Nat → Int32) (c_this_desk_starts : Nat → Int32) (r0 : Int32 × Nat × (Nat → Int32) × (Nat → Int32) × (Nat → Int32) × (Nat → Int32) × (Nat → Int32)) (h : fX9_transform_o a_this_present c_this_buffer c_this_draft F_this_present c_this_desk_letters c_this_desk_sizes c_this_desk_starts = some r0) (hkind : ¬ F_this_present.1 = 0) : Met l yX9_transform (rk_w yX9_transform cX9_transform 4 (some .int)) rmX9_transform_o (va_Pc [.ref a_this] (rk_B D (rk_TY cI cJ cO) [(a_this, .inr (8, [.ref a_this_buffer, .ref a_this_draft, .ref a_this_desk, .ref a_this_archive, .ref a_this_present])), (a_this_buffer, .inl (cI, 60, .inl c_this_buffer)), (a_this_desk_letters, .inl (cI, 4, .inl c_this_desk_letters)), (a_this_desk_sizes, .inl (cI, 60, .inl c_this_desk_sizes)), (a_this_desk_starts, .inl (cI, 60, .inl c_this_desk_starts)), (a_this_draft, .inl (cI, 60, .inl c_this_draft))] [(a_this_desk, .inr (2, [.ref a_this_desk_binomials, .ref a_this_desk_partitionCounts, .ref a_this_desk_treeCounts, .ref a_this_desk_sizes, .ref a_this_desk_starts, .ref a_this_desk_ranks, .ref a_this_desk_letters])), (a_this_present, rk_fam F_this_present)] PL sz)) (rk_Qi r0.1 D [(a_this, .inr (8, [.ref a_this_buffer, .ref a_this_draft, .ref a_this_desk, .ref a_this_archive, .ref r0.2.1])), (a_this_buffer, .inl (cI, 60, .inl r0.2.2.1)), (a_this_desk_letters, .inl (cI, 4, .inl r0.2.2.2.1)), (a_this_desk_sizes, .inl (cI, 60, .inl r0.2.2.2.2.1)), (a_this_desk_starts, .inl (cI, 60, .inl r0.2.2.2.2.2.1)), (a_this_draft, .inl (cI, 60, .inl r0.2.2.2.2.2.2))] [(a_this, .inr (8, [.ref a_this_buffer, .ref a_this_draft, .ref a_this_desk, .ref a_this_archive, .ref a_this_present])), (a_this_buffer, .inl (cI, 60, .inl c_this_buffer)), (a_this_desk_letters, .inl (cI, 4, .inl c_this_desk_letters)), (a_this_desk_sizes, .inl (cI, 60, .inl c_this_desk_sizes)), (a_this_desk_starts, .inl (cI, 60, .inl c_this_desk_starts)), (a_this_draft, .inl (cI, 60, .inl c_this_draft))] sz) 0 0 (va_A [(a_this, .inr (8, [.ref a_this_buffer, .ref a_this_draft, .ref a_this_desk, .ref a_this_archive, .ref a_this_present])), (a_this_buffer, .inl (cI, 60, .inl c_this_buffer)), (a_this_desk_letters, .inl (cI, 4, .inl c_this_desk_letters)), (a_this_desk_sizes, .inl (cI, 60, .inl c_this_desk_sizes)), (a_this_desk_starts, .inl (cI, 60, .inl c_this_desk_starts)), (a_this_draft, .inl (cI, 60, .inl c_this_draft))] sz) := by
  refine rk_meti h (fun x : Int32 × Nat × (Nat → Int32) × (Nat → Int32) × (Nat → Int32) × (Nat → Int32) × (Nat → Int32) => x.1) (fun x => [(a_this, .inr (8, [.ref a_this_buffer, .ref a_this_draft, .ref a_this_desk, .ref a_this_archive, .ref x.2.1])), (a_this_buffer, .inl (cI, 60, .inl x.2.2.1)), (a_this_desk_letters, .inl (cI, 4, .inl x.2.2.2.1)), (a_this_desk_sizes, .inl (cI, 60, .inl x.2.2.2.2.1)), (a_this_desk_starts, .inl (cI, 60, .inl x.2.2.2.2.2.1)), (a_this_draft, .inl (cI, 60, .inl x.2.2.2.2.2.2))]) (by decide) (Nat.le_of_ble_eq_true rfl) ?_
  intro p e s m args below meth c A ls Q hret hname hF hP hD hA hV hR0 hn hPL hnl hl h hS
  have hx := hF.1
  have hb := hF.2.1
  have hml := hF.2.2.1
  have hown : s.vm.findClass RX9 = some m.cls := hF.2.2.2.1
  have htc := hF.2.2.2.2
  have hP : va_P D vwCl [(a_this, .inr (8, [.ref a_this_buffer, .ref a_this_draft, .ref a_this_desk, .ref a_this_archive, .ref a_this_present])), (a_this_buffer, .inl (cI, 60, .inl c_this_buffer)), (a_this_desk_letters, .inl (cI, 4, .inl c_this_desk_letters)), (a_this_desk_sizes, .inl (cI, 60, .inl c_this_desk_sizes)), (a_this_desk_starts, .inl (cI, 60, .inl c_this_desk_starts)), (a_this_draft, .inl (cI, 60, .inl c_this_draft))] s.heap := hP
  have hD : va_D A [(a_this, .inr (8, [.ref a_this_buffer, .ref a_this_draft, .ref a_this_desk, .ref a_this_archive, .ref a_this_present])), (a_this_buffer, .inl (cI, 60, .inl c_this_buffer)), (a_this_desk_letters, .inl (cI, 4, .inl c_this_desk_letters)), (a_this_desk_sizes, .inl (cI, 60, .inl c_this_desk_sizes)), (a_this_desk_starts, .inl (cI, 60, .inl c_this_desk_starts)), (a_this_draft, .inl (cI, 60, .inl c_this_draft))] := hD
  have hR0 : va_P D vwCl [(a_this_desk, .inr (2, [.ref a_this_desk_binomials, .ref a_this_desk_partitionCounts, .ref a_this_desk_treeCounts, .ref a_this_desk_sizes, .ref a_this_desk_starts, .ref a_this_desk_ranks, .ref a_this_desk_letters])), (a_this_present, rk_fam F_this_present)] s.heap := hR0
  have hR := hR0
  have hl : lv_has ls 4 [(0, .ref a_this)] := hl
  unfold fX9_transform_o at h
  refine lv_aload_n hx hb dX9_transform_0 rfl (lv_at hl 0 rfl) ?_
  obtain ⟨r_1, hc_1, h⟩ := rk_bd h
  refine rk_i (wr := [(a_this, .inr (8, [.ref a_this_buffer, .ref a_this_draft, .ref a_this_desk, .ref a_this_archive, .ref a_this_present])), (a_this_buffer, .inl (cI, 60, .inl c_this_buffer)), (a_this_desk_starts, .inl (cI, 60, .inl c_this_desk_starts)), (a_this_draft, .inl (cI, 60, .inl c_this_draft))]) (va_runV (C := RX9) (As := []) (rest := []) hF (mtX9_holdsObject l D cI cJ cO PL _ a_this a_this_buffer a_this_draft a_this_desk a_this_archive a_this_present c_this_buffer a_this_desk_binomials a_this_desk_partitionCounts a_this_desk_treeCounts a_this_desk_sizes a_this_desk_starts a_this_desk_ranks a_this_desk_letters F_this_present c_this_desk_letters c_this_desk_sizes r_1 hc_1) (cwV 0 htc (rk_gV w_2_219 w_2_221 ws_15 w_1_1 w_2_222) rfl rfl rfl (by decide +kernel) ⟨(Nat.le_of_ble_eq_true rfl), (Nat.le_of_ble_eq_true rfl)⟩) (rk_preV (va_recv hV.1 hP (ci := 8) (q0 := 0) rfl rfl) (rk_preS hP hD hS hR hn hPL hnl hV [2, 3] [(true, 0), (true, 1), (false, 0), (false, 1)] rfl (by decide) rfl (by decide))) rfl rfl hl.1 rfl (lv_room (Nat.le_of_ble_eq_true rfl)) dX9_transform_1 ⟨(Nat.le_of_ble_eq_true rfl), (Nat.le_of_ble_eq_true rfl)⟩) hP hD hS hA hR0 hn [2, 3] [0, 1, 4, 5] rfl rfl (by decide) (by decide) (fun H locs hP hD hS hR => ?_)
  have hP : va_P D vwCl [(a_this, .inr (8, [.ref a_this_buffer, .ref a_this_draft, .ref a_this_desk, .ref a_this_archive, .ref a_this_present])), (a_this_buffer, .inl (cI, 60, .inl c_this_buffer)), (a_this_desk_starts, .inl (cI, 60, .inl c_this_desk_starts)), (a_this_draft, .inl (cI, 60, .inl c_this_draft)), (a_this_desk_letters, .inl (cI, 4, .inl r_1.2.1)), (a_this_desk_sizes, .inl (cI, 60, .inl r_1.2.2))] H := hP
  have hD : va_D A [(a_this, .inr (8, [.ref a_this_buffer, .ref a_this_draft, .ref a_this_desk, .ref a_this_archive, .ref a_this_present])), (a_this_buffer, .inl (cI, 60, .inl c_this_buffer)), (a_this_desk_starts, .inl (cI, 60, .inl c_this_desk_starts)), (a_this_draft, .inl (cI, 60, .inl c_this_draft)), (a_this_desk_letters, .inl (cI, 4, .inl r_1.2.1)), (a_this_desk_sizes, .inl (cI, 60, .inl r_1.2.2))] := hD
  refine lv_if_ne (tgt := 10) hx hb dX9_transform_4 (by decide) (fun hc1 => ?_) (fun hc1 => ?_)
  · have h := rk_if hc1 h
    refine lv_aload_n hx hb dX9_transform_10 rfl (lv_at hl 0 rfl) ?_
    refine va_get (D := D) (ci := 8) (v := .ref a_this_present) (C := RX9) (T := TX9) (N := 5) hx hb htc inX9 hown hV.1 hP 0 rfl rfl 4 (by decide) (htc _ w_1_156) (fun _ h9 => h9) rfl dX9_transform_11 ?_
    refine rk_q (wr := [(a_this, .inr (8, [.ref a_this_buffer, .ref a_this_draft, .ref a_this_desk, .ref a_this_archive, .ref a_this_present])), (a_this_buffer, .inl (cI, 60, .inl c_this_buffer)), (a_this_desk_starts, .inl (cI, 60, .inl c_this_desk_starts)), (a_this_draft, .inl (cI, 60, .inl c_this_draft)), (a_this_desk_letters, .inl (cI, 4, .inl r_1.2.1)), (a_this_desk_sizes, .inl (cI, 60, .inl r_1.2.2))]) (vr_turned (rest := []) hF htc hV w_3_77 D cI cJ cO PL hkind (hR 1 _ rfl) (rk_preS (wc := []) (rc := []) hP hD hS hR hn hPL hnl hV [] [] rfl (by decide) rfl (by decide)) rfl rfl hl.1 rfl (lv_room (Nat.le_of_ble_eq_true rfl)) dX9_transform_14 ⟨(Nat.le_of_ble_eq_true rfl), (Nat.le_of_ble_eq_true rfl)⟩ (Nat.le_of_ble_eq_true rfl) (Nat.le_of_ble_eq_true rfl)) hP hD hS hA hR0 hn [] [0, 1, 2, 3, 4, 5] rfl rfl (by decide) (by decide) (fun H locs hP hD hS hR => ?_)
    have hP : va_P D vwCl [(a_this, .inr (8, [.ref a_this_buffer, .ref a_this_draft, .ref a_this_desk, .ref a_this_archive, .ref a_this_present])), (a_this_buffer, .inl (cI, 60, .inl c_this_buffer)), (a_this_desk_starts, .inl (cI, 60, .inl c_this_desk_starts)), (a_this_draft, .inl (cI, 60, .inl c_this_draft)), (a_this_desk_letters, .inl (cI, 4, .inl r_1.2.1)), (a_this_desk_sizes, .inl (cI, 60, .inl r_1.2.2))] H := hP
    have hD : va_D A [(a_this, .inr (8, [.ref a_this_buffer, .ref a_this_draft, .ref a_this_desk, .ref a_this_archive, .ref a_this_present])), (a_this_buffer, .inl (cI, 60, .inl c_this_buffer)), (a_this_desk_starts, .inl (cI, 60, .inl c_this_desk_starts)), (a_this_draft, .inl (cI, 60, .inl c_this_draft)), (a_this_desk_letters, .inl (cI, 4, .inl r_1.2.1)), (a_this_desk_sizes, .inl (cI, 60, .inl r_1.2.2))] := hD
    change W _ _ _ _ _ _ _ _ _ _ _ _ _ _ _ (F0 _ _ _ (.ref a_this_present :: _))
    refine lv_astore_n (lv' := [(1, .ref a_this_present), (0, .ref a_this)]) hx hb dX9_transform_17 rfl hl (by decide) rfl (fun ls hl => ?_)
    refine lv_aload_n hx hb dX9_transform_18 rfl (lv_at hl 1 rfl) ?_
    refine va_get (D := D) (ci := 8) (v := .ref a_this_present) (C := RX9) (T := TX9) (N := 5) hx hb htc inX9 hown hV.1 hP 0 rfl rfl 4 (by decide) (htc _ w_1_156) (fun _ h9 => h9) rfl dX9_transform_19 ?_
    refine lv_aload_n hx hb dX9_transform_22 rfl (lv_at hl 1 rfl) ?_
    refine va_get (D := D) (ci := 8) (v := .ref a_this_buffer) (C := RX9) (T := TX9) (N := 5) hx hb htc inX9 hown hV.1 hP 0 rfl rfl 0 (by decide) (htc _ w_1_152) (fun _ h9 => h9) rfl dX9_transform_23 ?_
    refine lv_aload_n hx hb dX9_transform_26 rfl (lv_at hl 1 rfl) ?_
    refine va_get (D := D) (ci := 8) (v := .ref a_this_draft) (C := RX9) (T := TX9) (N := 5) hx hb htc inX9 hown hV.1 hP 0 rfl rfl 1 (by decide) (htc _ w_1_153) (fun _ h9 => h9) rfl dX9_transform_27 ?_
    refine lv_aload_n hx hb dX9_transform_30 rfl (lv_at hl 1 rfl) ?_
    refine va_get (D := D) (ci := 8) (v := .ref a_this_desk) (C := RX9) (T := TX9) (N := 5) hx hb htc inX9 hown hV.1 hP 0 rfl rfl 2 (by decide) (htc _ w_1_154) (fun _ h9 => h9) rfl dX9_transform_31 ?_
    obtain ⟨r_34, hc_34, h⟩ := rk_bd h
    refine rk_v (wr := [(a_this, .inr (8, [.ref a_this_buffer, .ref a_this_draft, .ref a_this_desk, .ref a_this_archive, .ref a_this_present])), (a_this_buffer, .inl (cI, 60, .inl c_this_buffer)), (a_this_desk_letters, .inl (cI, 4, .inl r_1.2.1))]) (vr_turn (As := [.ref a_this_buffer, .ref a_this_draft, .ref a_this_desk]) (rest := []) hF htc hV w_3_91 rfl PL a_this_draft c_this_draft a_this_present F_this_present a_this_buffer c_this_buffer a_this_desk a_this_desk_binomials a_this_desk_partitionCounts a_this_desk_treeCounts a_this_desk_sizes a_this_desk_starts a_this_desk_ranks a_this_desk_letters r_1.2.2 c_this_desk_starts r_34 hc_34 (hR 1 _ rfl) (rk_preS hP hD hS hR hn hPL hnl hV [3, 5, 2] [(false, 1), (true, 1), (false, 0)] rfl (by decide) rfl (by decide)) rfl rfl hl.1 rfl (lv_room (Nat.le_of_ble_eq_true rfl)) dX9_transform_34 ⟨(Nat.le_of_ble_eq_true rfl), (Nat.le_of_ble_eq_true rfl)⟩ (Nat.le_of_ble_eq_true rfl) (Nat.le_of_ble_eq_true rfl) rfl) hP hD hS hA hR0 hn [3, 5, 2] [0, 1, 4] rfl rfl (by decide) (by decide) (fun H locs hP hD hS hR => ?_)
    have hP : va_P D vwCl [(a_this, .inr (8, [.ref a_this_buffer, .ref a_this_draft, .ref a_this_desk, .ref a_this_archive, .ref a_this_present])), (a_this_buffer, .inl (cI, 60, .inl c_this_buffer)), (a_this_desk_letters, .inl (cI, 4, .inl r_1.2.1)), (a_this_draft, .inl (cI, 60, .inl r_34.1)), (a_this_desk_sizes, .inl (cI, 60, .inl r_34.2.1)), (a_this_desk_starts, .inl (cI, 60, .inl r_34.2.2))] H := hP
    have hD : va_D A [(a_this, .inr (8, [.ref a_this_buffer, .ref a_this_draft, .ref a_this_desk, .ref a_this_archive, .ref a_this_present])), (a_this_buffer, .inl (cI, 60, .inl c_this_buffer)), (a_this_desk_letters, .inl (cI, 4, .inl r_1.2.1)), (a_this_draft, .inl (cI, 60, .inl r_34.1)), (a_this_desk_sizes, .inl (cI, 60, .inl r_34.2.1)), (a_this_desk_starts, .inl (cI, 60, .inl r_34.2.2))] := hD
    refine lv_aload_n hx hb dX9_transform_37 rfl (lv_at hl 0 rfl) ?_
    refine lv_aload_n hx hb dX9_transform_38 rfl (lv_at hl 1 rfl) ?_
    refine va_get (D := D) (ci := 8) (v := .ref a_this_draft) (C := RX9) (T := TX9) (N := 5) hx hb htc inX9 hown hV.1 hP 0 rfl rfl 1 (by decide) (htc _ w_1_153) (fun _ h9 => h9) rfl dX9_transform_39 ?_
    refine lv_aload_n hx hb dX9_transform_42 rfl (lv_at hl 1 rfl) ?_
    refine va_get (D := D) (ci := 8) (v := .ref a_this_desk) (C := RX9) (T := TX9) (N := 5) hx hb htc inX9 hown hV.1 hP 0 rfl rfl 2 (by decide) (htc _ w_1_154) (fun _ h9 => h9) rfl dX9_transform_43 ?_
    obtain ⟨r_46, hc_46, h⟩ := rk_bd h
    refine rk_i (wr := [(a_this, .inr (8, [.ref a_this_buffer, .ref a_this_draft, .ref a_this_desk, .ref a_this_archive, .ref a_this_present])), (a_this_buffer, .inl (cI, 60, .inl c_this_buffer)), (a_this_draft, .inl (cI, 60, .inl r_34.1)), (a_this_desk_starts, .inl (cI, 60, .inl r_34.2.2))]) (vr_accepts (As := [.ref a_this_draft, .ref a_this_desk]) (rest := []) hF htc hV w_2_223 rfl PL a_this_present F_this_present a_this_draft r_34.1 a_this_desk a_this_desk_binomials a_this_desk_partitionCounts a_this_desk_treeCounts a_this_desk_sizes a_this_desk_starts a_this_desk_ranks a_this_desk_letters r_1.2.1 r_34.2.1 r_46 hc_46 (hR 1 _ rfl) (rk_preS hP hD hS hR hn hPL hnl hV [2, 4] [(false, 1), (true, 3), (false, 0)] rfl (by decide) rfl (by decide)) rfl rfl hl.1 rfl (lv_room (Nat.le_of_ble_eq_true rfl)) dX9_transform_46 ⟨(Nat.le_of_ble_eq_true rfl), (Nat.le_of_ble_eq_true rfl)⟩ (Nat.le_of_ble_eq_true rfl) (Nat.le_of_ble_eq_true rfl) rfl) hP hD hS hA hR0 hn [2, 4] [0, 1, 3, 5] rfl rfl (by decide) (by decide) (fun H locs hP hD hS hR => ?_)
    have hP : va_P D vwCl [(a_this, .inr (8, [.ref a_this_buffer, .ref a_this_draft, .ref a_this_desk, .ref a_this_archive, .ref a_this_present])), (a_this_buffer, .inl (cI, 60, .inl c_this_buffer)), (a_this_draft, .inl (cI, 60, .inl r_34.1)), (a_this_desk_starts, .inl (cI, 60, .inl r_34.2.2)), (a_this_desk_letters, .inl (cI, 4, .inl r_46.2.1)), (a_this_desk_sizes, .inl (cI, 60, .inl r_46.2.2))] H := hP
    have hD : va_D A [(a_this, .inr (8, [.ref a_this_buffer, .ref a_this_draft, .ref a_this_desk, .ref a_this_archive, .ref a_this_present])), (a_this_buffer, .inl (cI, 60, .inl c_this_buffer)), (a_this_draft, .inl (cI, 60, .inl r_34.1)), (a_this_desk_starts, .inl (cI, 60, .inl r_34.2.2)), (a_this_desk_letters, .inl (cI, 4, .inl r_46.2.1)), (a_this_desk_sizes, .inl (cI, 60, .inl r_46.2.2))] := hD
    refine lv_if_ne (tgt := 55) hx hb dX9_transform_49 (by decide) (fun hc2 => ?_) (fun hc2 => ?_)
    · have h := rk_if hc2 h
      refine lv_aload_n hx hb dX9_transform_55 rfl (lv_at hl 0 rfl) ?_
      refine rk_fget_width hx hb htc hown hV.1 hR 1 rfl (htc _ w_1_135) dX9_transform_56 ?_
      refine lv_aload_n hx hb dX9_transform_59 rfl (lv_at hl 1 rfl) ?_
      refine va_get (D := D) (ci := 8) (v := .ref a_this_present) (C := RX9) (T := TX9) (N := 5) hx hb htc inX9 hown hV.1 hP 0 rfl rfl 4 (by decide) (htc _ w_1_156) (fun _ h9 => h9) rfl dX9_transform_60 ?_
      refine rk_fget_width hx hb htc hown hV.1 hR 1 rfl (htc _ w_1_135) dX9_transform_63 ?_
      have B74 : ∀ (b74_t0 : Int32), fX9_transform_o_B74 a_this_present c_this_buffer F_this_present r_34 r_46 b74_t0 = some r0 → ∀ (H : Heap) (locs : List Loc), va_P D vwCl [(a_this, .inr (8, [.ref a_this_buffer, .ref a_this_draft, .ref a_this_desk, .ref a_this_archive, .ref a_this_present])), (a_this_buffer, .inl (cI, 60, .inl c_this_buffer)), (a_this_draft, .inl (cI, 60, .inl r_34.1)), (a_this_desk_starts, .inl (cI, 60, .inl r_34.2.2)), (a_this_desk_letters, .inl (cI, 4, .inl r_46.2.1)), (a_this_desk_sizes, .inl (cI, 60, .inl r_46.2.2))] H → va_D A [(a_this, .inr (8, [.ref a_this_buffer, .ref a_this_draft, .ref a_this_desk, .ref a_this_archive, .ref a_this_present])), (a_this_buffer, .inl (cI, 60, .inl c_this_buffer)), (a_this_draft, .inl (cI, 60, .inl r_34.1)), (a_this_desk_starts, .inl (cI, 60, .inl r_34.2.2)), (a_this_desk_letters, .inl (cI, 4, .inl r_46.2.1)), (a_this_desk_sizes, .inl (cI, 60, .inl r_46.2.2))] → va_S A s.heap H locs → ∀ (ls : Array Slot), lv_has ls 4 [(0, .ref a_this), (1, .ref a_this_present)] → W p l e rmX9_transform_o s m args below meth c H locs 0 0 Q (F0 m 74 ls [.int b74_t0]) := by
        intro b74_t0 h H locs hP hD hS ls hl
        unfold fX9_transform_o_B74 at h
        have hR := rk_keep hR0 hn hS
        refine lv_istore_n (lv' := [(2, .int b74_t0), (0, .ref a_this), (1, .ref a_this_present)]) hx hb dX9_transform_74 rfl hl (by decide) rfl (fun ls hl => ?_)
        refine lv_aload_n hx hb dX9_transform_75 rfl (lv_at hl 1 rfl) ?_
        refine lv_aload_n hx hb dX9_transform_76 rfl (lv_at hl 2 rfl) ?_
        refine va_put (D := D) (ci := 8) (v := .ref a_this_present) (ty := (.object "EnumerativeCoder$Family")) (C := RX9) (T := TX9) (N := 5) hx hb htc inX9 tyX9 tyX9_ok nmX9 hown hV.1 hP hD hS 0 rfl rfl 4 (by decide) (htc _ w_1_156) (fun _ h9 => h9) rfl (by decide +kernel) rfl rfl (Nat.le_of_ble_eq_true rfl) dX9_transform_77 (fun H locs hP hD hS => ?_)
        have hP : va_P D vwCl [(a_this, .inr (8, [.ref a_this_buffer, .ref a_this_draft, .ref a_this_desk, .ref a_this_archive, .ref a_this_present])), (a_this_buffer, .inl (cI, 60, .inl c_this_buffer)), (a_this_draft, .inl (cI, 60, .inl r_34.1)), (a_this_desk_starts, .inl (cI, 60, .inl r_34.2.2)), (a_this_desk_letters, .inl (cI, 4, .inl r_46.2.1)), (a_this_desk_sizes, .inl (cI, 60, .inl r_46.2.2))] H := hP
        have hD : va_D A [(a_this, .inr (8, [.ref a_this_buffer, .ref a_this_draft, .ref a_this_desk, .ref a_this_archive, .ref a_this_present])), (a_this_buffer, .inl (cI, 60, .inl c_this_buffer)), (a_this_draft, .inl (cI, 60, .inl r_34.1)), (a_this_desk_starts, .inl (cI, 60, .inl r_34.2.2)), (a_this_desk_letters, .inl (cI, 4, .inl r_46.2.1)), (a_this_desk_sizes, .inl (cI, 60, .inl r_46.2.2))] := hD
        have hR := rk_keep hR0 hn hS
        refine lv_aload_n hx hb dX9_transform_80 rfl (lv_at hl 1 rfl) ?_
        obtain ⟨r_81, hc_81, h⟩ := rk_bd h
        refine rk_i (wr := [(a_this, .inr (8, [.ref a_this_buffer, .ref a_this_draft, .ref a_this_desk, .ref a_this_archive, .ref a_this_present])), (a_this_draft, .inl (cI, 60, .inl r_34.1)), (a_this_desk_starts, .inl (cI, 60, .inl r_34.2.2)), (a_this_desk_letters, .inl (cI, 4, .inl r_46.2.1)), (a_this_desk_sizes, .inl (cI, 60, .inl r_46.2.2))]) (va_runV (C := RX9) (As := []) (rest := []) hF (mtX9_takeDraft l D cI cJ cO PL _ a_this a_this_buffer a_this_draft a_this_desk a_this_archive a_this_present c_this_buffer r_34.1 F_this_present r_81 hc_81) (cwV 0 htc (rk_gV w_2_57 w_2_59 ws_12 w_1_1 w_2_60) rfl rfl rfl (by decide +kernel) ⟨(Nat.le_of_ble_eq_true rfl), (Nat.le_of_ble_eq_true rfl)⟩) (rk_preV (va_recv hV.1 hP (ci := 8) (q0 := 0) rfl rfl) (rk_preS hP hD hS hR hn hPL hnl hV [1] [(true, 0), (true, 2), (false, 1)] rfl (by decide) rfl (by decide))) rfl rfl hl.1 rfl (lv_room (Nat.le_of_ble_eq_true rfl)) dX9_transform_81 ⟨(Nat.le_of_ble_eq_true rfl), (Nat.le_of_ble_eq_true rfl)⟩) hP hD hS hA hR0 hn [1] [0, 2, 3, 4, 5] rfl rfl (by decide) (by decide) (fun H locs hP hD hS hR => ?_)
        have hP : va_P D vwCl [(a_this, .inr (8, [.ref a_this_buffer, .ref a_this_draft, .ref a_this_desk, .ref a_this_archive, .ref a_this_present])), (a_this_draft, .inl (cI, 60, .inl r_34.1)), (a_this_desk_starts, .inl (cI, 60, .inl r_34.2.2)), (a_this_desk_letters, .inl (cI, 4, .inl r_46.2.1)), (a_this_desk_sizes, .inl (cI, 60, .inl r_46.2.2)), (a_this_buffer, .inl (cI, 60, .inl r_81.2))] H := hP
        have hD : va_D A [(a_this, .inr (8, [.ref a_this_buffer, .ref a_this_draft, .ref a_this_desk, .ref a_this_archive, .ref a_this_present])), (a_this_draft, .inl (cI, 60, .inl r_34.1)), (a_this_desk_starts, .inl (cI, 60, .inl r_34.2.2)), (a_this_desk_letters, .inl (cI, 4, .inl r_46.2.1)), (a_this_desk_sizes, .inl (cI, 60, .inl r_46.2.2)), (a_this_buffer, .inl (cI, 60, .inl r_81.2))] := hD
        refine lv_istore_n (lv' := [(3, .int r_81.1), (2, .int b74_t0), (0, .ref a_this), (1, .ref a_this_present)]) hx hb dX9_transform_84 rfl hl (by decide) rfl (fun ls hl => ?_)
        refine lv_iload_n hx hb dX9_transform_85 rfl (lv_at hl 1 rfl) ?_
        have B93 : fX9_transform_o_B93 a_this_present r_34 r_46 r_81 = some r0 → ∀ (H : Heap) (locs : List Loc), va_P D vwCl [(a_this, .inr (8, [.ref a_this_buffer, .ref a_this_draft, .ref a_this_desk, .ref a_this_archive, .ref a_this_present])), (a_this_draft, .inl (cI, 60, .inl r_34.1)), (a_this_desk_starts, .inl (cI, 60, .inl r_34.2.2)), (a_this_desk_letters, .inl (cI, 4, .inl r_46.2.1)), (a_this_desk_sizes, .inl (cI, 60, .inl r_46.2.2)), (a_this_buffer, .inl (cI, 60, .inl r_81.2))] H → va_D A [(a_this, .inr (8, [.ref a_this_buffer, .ref a_this_draft, .ref a_this_desk, .ref a_this_archive, .ref a_this_present])), (a_this_draft, .inl (cI, 60, .inl r_34.1)), (a_this_desk_starts, .inl (cI, 60, .inl r_34.2.2)), (a_this_desk_letters, .inl (cI, 4, .inl r_46.2.1)), (a_this_desk_sizes, .inl (cI, 60, .inl r_46.2.2)), (a_this_buffer, .inl (cI, 60, .inl r_81.2))] → va_S A s.heap H locs → ∀ (ls : Array Slot), lv_has ls 4 [] → W p l e rmX9_transform_o s m args below meth c H locs 0 0 Q (F0 m 93 ls []) := by
          intro  h H locs hP hD hS ls hl
          unfold fX9_transform_o_B93 at h
          have hR := rk_keep hR0 hn hS
          refine lv_iconst (v := 1) hx hb dX9_transform_93 (by decide) ?_
          refine lv_goto (tgt := 98) hx hb dX9_transform_94 (by decide) ?_
          exact hret ((1 : Int32), a_this_present, r_81.2, r_46.2.1, r_46.2.2, r_34.2.2, r_34.1) _ _ _ _ h dX9_transform_98 (hP.sub [0, 5, 3, 4, 2, 1] rfl) (hD.sub [0, 5, 3, 4, 2, 1] (by decide) rfl) hS
        refine lv_if_ne (tgt := 93) hx hb dX9_transform_86 (by decide) (fun hc3 => ?_) (fun hc3 => ?_)
        · have h := rk_if hc3 h
          exact B93  h _ _ hP hD hS _ (lv_sub hl [] rfl)
        · have h := rk_nnif hc3 h
          refine lv_iload_n hx hb dX9_transform_89 rfl (lv_at hl 0 rfl) ?_
          refine lv_if_eq (tgt := 97) hx hb dX9_transform_90 (by decide) (fun hc4 => ?_) (fun hc4 => ?_)
          · have h := rk_if hc4 h
            refine lv_iconst (v := 0) hx hb dX9_transform_97 (by decide) ?_
            exact hret ((0 : Int32), a_this_present, r_81.2, r_46.2.1, r_46.2.2, r_34.2.2, r_34.1) _ _ _ _ h dX9_transform_98 (hP.sub [0, 5, 3, 4, 2, 1] rfl) (hD.sub [0, 5, 3, 4, 2, 1] (by decide) rfl) hS
          · have h := rk_nif hc4 h
            exact B93  h _ _ hP hD hS _ (lv_sub hl [] rfl)
      refine lv_icmp_eq (tgt := 73) hx hb dX9_transform_66 (by decide) (fun hc5 => ?_) (fun hc5 => ?_)
      · have h := rk_if hc5 h
        refine lv_iconst (v := 0) hx hb dX9_transform_73 (by decide) ?_
        exact B74 (0 : Int32) h _ _ hP hD hS _ (lv_sub hl [1, 0] rfl)
      · have h := rk_nif hc5 h
        refine lv_iconst (v := 1) hx hb dX9_transform_69 (by decide) ?_
        refine lv_goto (tgt := 74) hx hb dX9_transform_70 (by decide) ?_
        exact B74 (1 : Int32) h _ _ hP hD hS _ (lv_sub hl [1, 0] rfl)
    · have h := rk_nnif hc2 h
      refine lv_bipush (v := (-6)) hx hb dX9_transform_52 (by decide) ?_
      exact hret ((-6 : Int32), a_this_present, c_this_buffer, r_46.2.1, r_46.2.2, r_34.2.2, r_34.1) _ _ _ _ h dX9_transform_54 (hP.sub [0, 1, 4, 5, 3, 2] rfl) (hD.sub [0, 1, 4, 5, 3, 2] (by decide) rfl) hS
  · have h := rk_nnif hc1 h
    refine lv_bipush (v := (-2)) hx hb dX9_transform_7 (by decide) ?_
    exact hret ((-2 : Int32), a_this_present, c_this_buffer, r_1.2.1, r_1.2.2, c_this_desk_starts, c_this_draft) _ _ _ _ h dX9_transform_9 (hP.sub [0, 1, 4, 5, 2, 3] rfl) (hD.sub [0, 1, 4, 5, 2, 3] (by decide) rfl) hS
