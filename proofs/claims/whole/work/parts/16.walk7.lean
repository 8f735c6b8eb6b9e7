set_option maxHeartbeats 4000000 in
set_option maxRecDepth 100000 in
theorem mtX10_manyNow (l : Launch) (D : va_G) (cI cJ cO : ClassId) (PL : va_W) (sz : Nat) (a_this : Nat) (a_this_chosen : Nat) (a_this_factorial : Nat) (a_this_catalan : Nat) (a_this_parted : Nat) (a_this_closed : Nat) (f_this_now : Int32) (a_this_of : Nat) (a_this_buffer : Nat) (a_this_made : Nat) (a_this_stackOne : Nat) (a_this_stackOther : Nat) (a_this_stackLong : Nat) (a_this_left : Nat) (f_this_entryMany : Int32) (a_this_entryFamily : Nat) (a_this_entryOf : Nat) (a_this_entryRank : Nat) (c_this_catalan : Nat → Int64) (c_this_chosen : Nat → Int64) (c_this_closed : Nat → Int64) (c_this_factorial : Nat → Int64) (c_this_of : Nat → Int32) (c_this_parted : Nat → Int64) (r0 : Int64) (h : fX10_manyNow f_this_now c_this_catalan c_this_chosen c_this_closed c_this_factorial c_this_of c_this_parted = some r0) : Met l yX10_manyNow (rk_w yX10_manyNow cX10_manyNow 1 (some .long)) rmX10_manyNow (va_Pc [.ref a_this] (rk_B D (rk_TY cI cJ cO) [] [(a_this, .inr (9, [.ref a_this_chosen, .ref a_this_factorial, .ref a_this_catalan, .ref a_this_parted, .ref a_this_closed, .int f_this_now, .ref a_this_of, .ref a_this_buffer, .ref a_this_made, .ref a_this_stackOne, .ref a_this_stackOther, .ref a_this_stackLong, .ref a_this_left, .int f_this_entryMany, .ref a_this_entryFamily, .ref a_this_entryOf, .ref a_this_entryRank])), (a_this_catalan, .inl (cJ, 31, .inr (.inl c_this_catalan))), (a_this_chosen, .inl (cJ, 3721, .inr (.inl c_this_chosen))), (a_this_closed, .inl (cJ, 1722, .inr (.inl c_this_closed))), (a_this_factorial, .inl (cJ, 21, .inr (.inl c_this_factorial))), (a_this_of, .inl (cI, 4, .inl c_this_of)), (a_this_parted, .inl (cJ, 3721, .inr (.inl c_this_parted)))] PL sz)) (rk_Ql r0 D [] [] sz) 0 0 (va_A [] sz) := by
  refine rk_metl h (fun x : Int64 => x) (fun x => []) (by decide) (Nat.le_of_ble_eq_true rfl) ?_
  intro p e s m args below meth c A ls Q hret hname hF hP hD hA hV hR0 hn hPL hnl hl h hS
  have hx := hF.1
  have hb := hF.2.1
  have hml := hF.2.2.1
  have hown : s.vm.findClass RX10 = some m.cls := hF.2.2.2.1
  have htc := hF.2.2.2.2
  have hP : va_P D vwCl [] s.heap := hP
  have hD : va_D A [] := hD
  have hR0 : va_P D vwCl [(a_this, .inr (9, [.ref a_this_chosen, .ref a_this_factorial, .ref a_this_catalan, .ref a_this_parted, .ref a_this_closed, .int f_this_now, .ref a_this_of, .ref a_this_buffer, .ref a_this_made, .ref a_this_stackOne, .ref a_this_stackOther, .ref a_this_stackLong, .ref a_this_left, .int f_this_entryMany, .ref a_this_entryFamily, .ref a_this_entryOf, .ref a_this_entryRank])), (a_this_catalan, .inl (cJ, 31, .inr (.inl c_this_catalan))), (a_this_chosen, .inl (cJ, 3721, .inr (.inl c_this_chosen))), (a_this_closed, .inl (cJ, 1722, .inr (.inl c_this_closed))), (a_this_factorial, .inl (cJ, 21, .inr (.inl c_this_factorial))), (a_this_of, .inl (cI, 4, .inl c_this_of)), (a_this_parted, .inl (cJ, 3721, .inr (.inl c_this_parted)))] s.heap := hR0
  have hR := hR0
  have hl : lv_has ls 1 [(0, .ref a_this)] := hl
  unfold fX10_manyNow at h
  refine lv_aload_n hx hb dX10_manyNow_0 rfl (lv_at hl 0 rfl) ?_
  refine lv_aload_n hx hb dX10_manyNow_1 rfl (lv_at hl 0 rfl) ?_
  refine va_get (D := D) (ci := 9) (v := .int f_this_now) (C := RX10) (T := TX10) (N := 17) hx hb htc inX10 hown hV.1 hR 0 rfl rfl 5 (by decide) (htc _ w_4_3) (fun _ h9 => h9) rfl dX10_manyNow_2 ?_
  refine lv_aload_n hx hb dX10_manyNow_5 rfl (lv_at hl 0 rfl) ?_
  refine va_get (D := D) (ci := 9) (v := .ref a_this_of) (C := RX10) (T := TX10) (N := 17) hx hb htc inX10 hown hV.1 hR 0 rfl rfl 6 (by decide) (htc _ w_4_4) (fun _ h9 => h9) rfl dX10_manyNow_6 ?_
  refine lv_iconst (v := 0) hx hb dX10_manyNow_9 (by decide) ?_
  refine va_iald hx hb hV.1 hR 5 0 rfl rfl (show vp_in (0 : Int32) 4 from (by decide : ¬ ((0 : Int32) < 0 ∨ 4 ≤ (0 : Int32).toNatClampNeg))) dX10_manyNow_10 ?_
  refine W.eq (g2 := F0 m 11 ls [.int (c_this_of 0), .int f_this_now, .ref a_this]) rfl ?_
  refine lv_aload_n hx hb dX10_manyNow_11 rfl (lv_at hl 0 rfl) ?_
  refine va_get (D := D) (ci := 9) (v := .ref a_this_of) (C := RX10) (T := TX10) (N := 17) hx hb htc inX10 hown hV.1 hR 0 rfl rfl 6 (by decide) (htc _ w_4_4) (fun _ h9 => h9) rfl dX10_manyNow_12 ?_
  refine lv_iconst (v := 1) hx hb dX10_manyNow_15 (by decide) ?_
  refine va_iald hx hb hV.1 hR 5 0 rfl rfl (show vp_in (1 : Int32) 4 from (by decide : ¬ ((1 : Int32) < 0 ∨ 4 ≤ (1 : Int32).toNatClampNeg))) dX10_manyNow_16 ?_
  refine W.eq (g2 := F0 m 17 ls [.int (c_this_of 1), .int (c_this_of 0), .int f_this_now, .ref a_this]) rfl ?_
  refine lv_aload_n hx hb dX10_manyNow_17 rfl (lv_at hl 0 rfl) ?_
  refine va_get (D := D) (ci := 9) (v := .ref a_this_of) (C := RX10) (T := TX10) (N := 17) hx hb htc inX10 hown hV.1 hR 0 rfl rfl 6 (by decide) (htc _ w_4_4) (fun _ h9 => h9) rfl dX10_manyNow_18 ?_
  refine lv_iconst (v := 2) hx hb dX10_manyNow_21 (by decide) ?_
  refine va_iald hx hb hV.1 hR 5 0 rfl rfl (show vp_in (2 : Int32) 4 from (by decide : ¬ ((2 : Int32) < 0 ∨ 4 ≤ (2 : Int32).toNatClampNeg))) dX10_manyNow_22 ?_
  refine W.eq (g2 := F0 m 23 ls [.int (c_this_of 2), .int (c_this_of 1), .int (c_this_of 0), .int f_this_now, .ref a_this]) rfl ?_
  refine lv_aload_n hx hb dX10_manyNow_23 rfl (lv_at hl 0 rfl) ?_
  refine va_get (D := D) (ci := 9) (v := .ref a_this_of) (C := RX10) (T := TX10) (N := 17) hx hb htc inX10 hown hV.1 hR 0 rfl rfl 6 (by decide) (htc _ w_4_4) (fun _ h9 => h9) rfl dX10_manyNow_24 ?_
  refine lv_iconst (v := 3) hx hb dX10_manyNow_27 (by decide) ?_
  refine va_iald hx hb hV.1 hR 5 0 rfl rfl (show vp_in (3 : Int32) 4 from (by decide : ¬ ((3 : Int32) < 0 ∨ 4 ≤ (3 : Int32).toNatClampNeg))) dX10_manyNow_28 ?_
  refine W.eq (g2 := F0 m 29 ls [.int (c_this_of 3), .int (c_this_of 2), .int (c_this_of 1), .int (c_this_of 0), .int f_this_now, .ref a_this]) rfl ?_
  obtain ⟨r_29, hc_29, h⟩ := rk_bd h
  refine rk_l (wr := []) (va_runV (C := RX10) (As := [.int f_this_now, .int (c_this_of 0), .int (c_this_of 1), .int (c_this_of 2), .int (c_this_of 3)]) (rest := []) hF (mtX10_countOf l D cI cJ cO PL _ a_this a_this_chosen a_this_factorial a_this_catalan a_this_parted a_this_closed f_this_now a_this_of a_this_buffer a_this_made a_this_stackOne a_this_stackOther a_this_stackLong a_this_left f_this_entryMany a_this_entryFamily a_this_entryOf a_this_entryRank c_this_catalan c_this_chosen c_this_closed c_this_factorial c_this_parted f_this_now (c_this_of 0) (c_this_of 1) (c_this_of 2) (c_this_of 3) r_29 hc_29) (cwV 5 htc (rk_gV w_4_170 w_4_172 ws_53 w_1_7 w_4_173) rfl rfl rfl (by decide +kernel) ⟨(Nat.le_of_ble_eq_true rfl), (Nat.le_of_ble_eq_true rfl)⟩) (rk_preV (va_recv hV.1 hR (ci := 9) (q0 := 0) rfl rfl) (rk_preS hP hD hS hR hn hPL hnl hV [] [(false, 0), (false, 1), (false, 2), (false, 3), (false, 4), (false, 6)] rfl (by decide) rfl (by decide))) rfl rfl hl.1 rfl (lv_room (Nat.le_of_ble_eq_true rfl)) dX10_manyNow_29 ⟨(Nat.le_of_ble_eq_true rfl), (Nat.le_of_ble_eq_true rfl)⟩) hP hD hS hA hR0 hn [] [] rfl rfl (by decide) (by decide) (fun H locs hP hD hS hR => ?_)
  have hP : va_P D vwCl [] H := hP
  have hD : va_D A [] := hD
  exact hret r_29 _ _ _ _ h dX10_manyNow_32 hP hD hS
set_option maxHeartbeats 4000000 in
set_option maxRecDepth 100000 in
theorem mtX10_stores (l : Launch) (D : va_G) (cI cJ cO : ClassId) (PL : va_W) (sz : Nat) (a_this : Nat) (a_this_chosen : Nat) (a_this_factorial : Nat) (a_this_catalan : Nat) (a_this_parted : Nat) (a_this_closed : Nat) (f_this_now : Int32) (a_this_of : Nat) (a_this_buffer : Nat) (a_this_made : Nat) (a_this_stackOne : Nat) (a_this_stackOther : Nat) (a_this_stackLong : Nat) (a_this_left : Nat) (f_this_entryMany : Int32) (a_this_entryFamily : Nat) (a_this_entryOf : Nat) (a_this_entryRank : Nat) (c_this_buffer : Nat → Int32) (c_this_made : Nat → Int32) (c_this_of : Nat → Int32) (r0 : Int32 × (Nat → Int32)) (h : fX10_stores f_this_now c_this_buffer c_this_made c_this_of = some r0) : Met l yX10_stores (rk_w yX10_stores cX10_stores 3 (some .boolean)) rmX10_stores (va_Pc [.ref a_this] (rk_B D (rk_TY cI cJ cO) [(a_this_buffer, .inl (cI, 60, .inl c_this_buffer))] [(a_this, .inr (9, [.ref a_this_chosen, .ref a_this_factorial, .ref a_this_catalan, .ref a_this_parted, .ref a_this_closed, .int f_this_now, .ref a_this_of, .ref a_this_buffer, .ref a_this_made, .ref a_this_stackOne, .ref a_this_stackOther, .ref a_this_stackLong, .ref a_this_left, .int f_this_entryMany, .ref a_this_entryFamily, .ref a_this_entryOf, .ref a_this_entryRank])), (a_this_made, .inl (cI, 60, .inl c_this_made)), (a_this_of, .inl (cI, 4, .inl c_this_of))] PL sz)) (rk_Qi r0.1 D [(a_this_buffer, .inl (cI, 60, .inl r0.2))] [(a_this_buffer, .inl (cI, 60, .inl c_this_buffer))] sz) 0 0 (va_A [(a_this_buffer, .inl (cI, 60, .inl c_this_buffer))] sz) := by
  refine rk_metz h (fun x : Int32 × (Nat → Int32) => x.1) (fun x => [(a_this_buffer, .inl (cI, 60, .inl x.2))]) (by decide) (Nat.le_of_ble_eq_true rfl) ?_
  intro p e s m args below meth c A ls Q hret hname hF hP hD hA hV hR0 hn hPL hnl hl h hS
  have hx := hF.1
  have hb := hF.2.1
  have hml := hF.2.2.1
  have hown : s.vm.findClass RX10 = some m.cls := hF.2.2.2.1
  have htc := hF.2.2.2.2
  have hP : va_P D vwCl [(a_this_buffer, .inl (cI, 60, .inl c_this_buffer))] s.heap := hP
  have hD : va_D A [(a_this_buffer, .inl (cI, 60, .inl c_this_buffer))] := hD
  have hR0 : va_P D vwCl [(a_this, .inr (9, [.ref a_this_chosen, .ref a_this_factorial, .ref a_this_catalan, .ref a_this_parted, .ref a_this_closed, .int f_this_now, .ref a_this_of, .ref a_this_buffer, .ref a_this_made, .ref a_this_stackOne, .ref a_this_stackOther, .ref a_this_stackLong, .ref a_this_left, .int f_this_entryMany, .ref a_this_entryFamily, .ref a_this_entryOf, .ref a_this_entryRank])), (a_this_made, .inl (cI, 60, .inl c_this_made)), (a_this_of, .inl (cI, 4, .inl c_this_of))] s.heap := hR0
  have hR := hR0
  have hl : lv_has ls 3 [(0, .ref a_this)] := hl
  unfold fX10_stores at h
  refine lv_iconst (v := 0) hx hb dX10_stores_0 (by decide) ?_
  refine lv_istore_n (lv' := [(1, .int (0 : Int32)), (0, .ref a_this)]) hx hb dX10_stores_1 rfl hl (by decide) rfl (fun ls hl => ?_)
  refine lv_iconst (v := 0) hx hb dX10_stores_2 (by decide) ?_
  refine lv_istore_n (lv' := [(2, .int (0 : Int32)), (1, .int (0 : Int32)), (0, .ref a_this)]) hx hb dX10_stores_3 rfl hl (by decide) rfl (fun ls hl => ?_)
  have L4 : ∀ (n4 : Nat) (b4_l1 : Int32) (b4_l2 : Int32) (b4_c_this_buffer : Nat → Int32), rk_it3 (fX10_stores_L4 f_this_now c_this_made c_this_of) n4 b4_l1 b4_l2 b4_c_this_buffer = some r0 → ∀ (H : Heap) (locs : List Loc), va_P D vwCl [(a_this_buffer, .inl (cI, 60, .inl b4_c_this_buffer))] H → va_D A [(a_this_buffer, .inl (cI, 60, .inl b4_c_this_buffer))] → va_S A s.heap H locs → ∀ (ls : Array Slot), lv_has ls 3 [(0, .ref a_this), (1, .int b4_l1), (2, .int b4_l2)] → W p l e rmX10_stores s m args below meth c H locs 0 0 Q (F0 m 4 ls []) := by
    intro n4
    induction n4 with
    | zero => intro b4_l1 b4_l2 b4_c_this_buffer h; exact rk_no h
    | succ n4 ih4 =>
      intro b4_l1 b4_l2 b4_c_this_buffer h H locs hP hD hS ls hl
      have h : fX10_stores_L4 f_this_now c_this_made c_this_of (rk_it3 (fX10_stores_L4 f_this_now c_this_made c_this_of) n4) b4_l1 b4_l2 b4_c_this_buffer = some r0 := h
      unfold fX10_stores_L4 at h
      have hR := rk_keep hR0 hn hS
      refine lv_iload_n hx hb dX10_stores_4 rfl (lv_at hl 2 rfl) ?_
      refine lv_aload_n hx hb dX10_stores_5 rfl (lv_at hl 0 rfl) ?_
      obtain ⟨r_6, hc_6, h⟩ := rk_bd h
      refine rk_i (wr := [(a_this_buffer, .inl (cI, 60, .inl b4_c_this_buffer))]) (va_runV (C := RX10) (As := []) (rest := [.int b4_l2]) hF (mtX10_longNow l D cI cJ cO PL _ a_this a_this_chosen a_this_factorial a_this_catalan a_this_parted a_this_closed f_this_now a_this_of a_this_buffer a_this_made a_this_stackOne a_this_stackOther a_this_stackLong a_this_left f_this_entryMany a_this_entryFamily a_this_entryOf a_this_entryRank c_this_of r_6 hc_6) (cwV 0 htc (rk_gV w_4_111 w_4_113 ws_48 w_1_7 w_4_114) rfl rfl rfl (by decide +kernel) ⟨(Nat.le_of_ble_eq_true rfl), (Nat.le_of_ble_eq_true rfl)⟩) (rk_preV (va_recv hV.1 hR (ci := 9) (q0 := 0) rfl rfl) (rk_preS hP hD hS hR hn hPL hnl hV [] [(false, 0), (false, 2)] rfl (by decide) rfl (by decide))) rfl rfl hl.1 rfl (lv_room (Nat.le_of_ble_eq_true rfl)) dX10_stores_6 ⟨(Nat.le_of_ble_eq_true rfl), (Nat.le_of_ble_eq_true rfl)⟩) hP hD hS hA hR0 hn [] [0] rfl rfl (by decide) (by decide) (fun H locs hP hD hS hR => ?_)
      have hP : va_P D vwCl [(a_this_buffer, .inl (cI, 60, .inl b4_c_this_buffer))] H := hP
      have hD : va_D A [(a_this_buffer, .inl (cI, 60, .inl b4_c_this_buffer))] := hD
      refine lv_icmp_ge (tgt := 55) hx hb dX10_stores_9 (by decide) (fun hc1 => ?_) (fun hc1 => ?_)
      · have h := rk_if hc1 h
        refine lv_iload_n hx hb dX10_stores_55 rfl (lv_at hl 1 rfl) ?_
        obtain ⟨hz2, h⟩ := rk_gp h
        exact hret (b4_l1, b4_c_this_buffer) _ _ _ _ h (rk_nz hz2) dX10_stores_56 hP hD hS
      · have h := rk_nif hc1 h
        refine lv_iload_n hx hb dX10_stores_12 rfl (lv_at hl 1 rfl) ?_
        have B36 : ∀ (b36_t0 : Int32), fX10_stores_B36 c_this_made b4_l2 b4_c_this_buffer (rk_it3 (fX10_stores_L4 f_this_now c_this_made c_this_of) n4) b36_t0 = some r0 → ∀ (H : Heap) (locs : List Loc), va_P D vwCl [(a_this_buffer, .inl (cI, 60, .inl b4_c_this_buffer))] H → va_D A [(a_this_buffer, .inl (cI, 60, .inl b4_c_this_buffer))] → va_S A s.heap H locs → ∀ (ls : Array Slot), lv_has ls 3 [(0, .ref a_this), (2, .int b4_l2)] → W p l e rmX10_stores s m args below meth c H locs 0 0 Q (F0 m 36 ls [.int b36_t0]) := by
          intro b36_t0 h H locs hP hD hS ls hl
          unfold fX10_stores_B36 at h
          have hR := rk_keep hR0 hn hS
          refine lv_istore_n (lv' := [(1, .int b36_t0), (0, .ref a_this), (2, .int b4_l2)]) hx hb dX10_stores_36 rfl hl (by decide) rfl (fun ls hl => ?_)
          refine lv_aload_n hx hb dX10_stores_37 rfl (lv_at hl 1 rfl) ?_
          refine va_get (D := D) (ci := 9) (v := .ref a_this_buffer) (C := RX10) (T := TX10) (N := 17) hx hb htc inX10 hown hV.1 hR 0 rfl rfl 7 (by decide) (htc _ w_4_5) (fun _ h9 => h9) rfl dX10_stores_38 ?_
          refine lv_iload_n hx hb dX10_stores_41 rfl (lv_at hl 2 rfl) ?_
          refine lv_aload_n hx hb dX10_stores_42 rfl (lv_at hl 1 rfl) ?_
          refine va_get (D := D) (ci := 9) (v := .ref a_this_made) (C := RX10) (T := TX10) (N := 17) hx hb htc inX10 hown hV.1 hR 0 rfl rfl 8 (by decide) (htc _ w_4_6) (fun _ h9 => h9) rfl dX10_stores_43 ?_
          refine lv_iload_n hx hb dX10_stores_46 rfl (lv_at hl 2 rfl) ?_
          obtain ⟨hg3, h⟩ := rk_gd h
          refine va_iald hx hb hV.1 hR 1 0 rfl rfl hg3 dX10_stores_47 ?_
          refine va_iast hx hb hV.1 hP hD hS 0 0 rfl rfl hg3 dX10_stores_48 (fun H locs hP hD hS => ?_)
          have hP : va_P D vwCl [(a_this_buffer, .inl (cI, 60, .inl (upd b4_c_this_buffer b4_l2.toNatClampNeg (c_this_made b4_l2.toNatClampNeg))))] H := hP
          have hD : va_D A [(a_this_buffer, .inl (cI, 60, .inl (upd b4_c_this_buffer b4_l2.toNatClampNeg (c_this_made b4_l2.toNatClampNeg))))] := hD
          have hR := rk_keep hR0 hn hS
          refine lv_iinc (v := (b4_l2 + 1)) (lv' := [(2, .int (b4_l2 + 1)), (1, .int b36_t0), (0, .ref a_this)]) hx hb dX10_stores_49 hl (k := 2) rfl rfl (by decide) rfl (fun ls hl => ?_)
          refine lv_goto (tgt := 4) hx hb dX10_stores_52 (by decide) ?_
          exact ih4 b36_t0 (b4_l2 + 1) (upd b4_c_this_buffer b4_l2.toNatClampNeg (c_this_made b4_l2.toNatClampNeg)) h _ _ hP hD hS _ (lv_sub hl [2, 1, 0] rfl)
        have B31 : fX10_stores_B31 c_this_made b4_l2 b4_c_this_buffer (rk_it3 (fX10_stores_L4 f_this_now c_this_made c_this_of) n4) = some r0 → ∀ (H : Heap) (locs : List Loc), va_P D vwCl [(a_this_buffer, .inl (cI, 60, .inl b4_c_this_buffer))] H → va_D A [(a_this_buffer, .inl (cI, 60, .inl b4_c_this_buffer))] → va_S A s.heap H locs → ∀ (ls : Array Slot), lv_has ls 3 [(0, .ref a_this), (2, .int b4_l2)] → W p l e rmX10_stores s m args below meth c H locs 0 0 Q (F0 m 31 ls []) := by
          intro  h H locs hP hD hS ls hl
          unfold fX10_stores_B31 at h
          have hR := rk_keep hR0 hn hS
          refine lv_iconst (v := 1) hx hb dX10_stores_31 (by decide) ?_
          refine lv_goto (tgt := 36) hx hb dX10_stores_32 (by decide) ?_
          exact B36 (1 : Int32) h _ _ hP hD hS _ hl
        refine lv_if_ne (tgt := 31) hx hb dX10_stores_13 (by decide) (fun hc4 => ?_) (fun hc4 => ?_)
        · have h := rk_if hc4 h
          exact B31  h _ _ hP hD hS _ (lv_sub hl [0, 2] rfl)
        · have h := rk_nnif hc4 h
          refine lv_aload_n hx hb dX10_stores_16 rfl (lv_at hl 0 rfl) ?_
          refine va_get (D := D) (ci := 9) (v := .ref a_this_buffer) (C := RX10) (T := TX10) (N := 17) hx hb htc inX10 hown hV.1 hR 0 rfl rfl 7 (by decide) (htc _ w_4_5) (fun _ h9 => h9) rfl dX10_stores_17 ?_
          refine lv_iload_n hx hb dX10_stores_20 rfl (lv_at hl 2 rfl) ?_
          obtain ⟨hg5, h⟩ := rk_gd h
          refine va_iald hx hb hV.1 hP 0 0 rfl rfl hg5 dX10_stores_21 ?_
          refine lv_aload_n hx hb dX10_stores_22 rfl (lv_at hl 0 rfl) ?_
          refine va_get (D := D) (ci := 9) (v := .ref a_this_made) (C := RX10) (T := TX10) (N := 17) hx hb htc inX10 hown hV.1 hR 0 rfl rfl 8 (by decide) (htc _ w_4_6) (fun _ h9 => h9) rfl dX10_stores_23 ?_
          refine lv_iload_n hx hb dX10_stores_26 rfl (lv_at hl 2 rfl) ?_
          refine va_iald hx hb hV.1 hR 1 0 rfl rfl hg5 dX10_stores_27 ?_
          refine lv_icmp_eq (tgt := 35) hx hb dX10_stores_28 (by decide) (fun hc6 => ?_) (fun hc6 => ?_)
          · have h := rk_if hc6 h
            refine lv_iconst (v := 0) hx hb dX10_stores_35 (by decide) ?_
            exact B36 (0 : Int32) h _ _ hP hD hS _ (lv_sub hl [0, 2] rfl)
          · have h := rk_nif hc6 h
            exact B31  h _ _ hP hD hS _ (lv_sub hl [0, 2] rfl)
  exact L4 FU (0 : Int32) (0 : Int32) c_this_buffer h _ _ hP hD hS _ (lv_sub hl [2, 1, 0] rfl)
set_option maxHeartbeats 4000000 in
set_option maxRecDepth 100000 in
theorem mtX10_turnsTo (l : Launch) (D : va_G) (cI cJ cO : ClassId) (PL : va_W) (sz : Nat) (a_this : Nat) (a_this_chosen : Nat) (a_this_factorial : Nat) (a_this_catalan : Nat) (a_this_parted : Nat) (a_this_closed : Nat) (f_this_now : Int32) (a_this_of : Nat) (a_this_buffer : Nat) (a_this_made : Nat) (a_this_stackOne : Nat) (a_this_stackOther : Nat) (a_this_stackLong : Nat) (a_this_left : Nat) (f_this_entryMany : Int32) (a_this_entryFamily : Nat) (a_this_entryOf : Nat) (a_this_entryRank : Nat) (c_this_of : Nat → Int32) (v_p1 : Int32) (v_p2 : Int32) (v_p3 : Int32) (v_p4 : Int32) (v_p5 : Int32) (r0 : Int32 × (Nat → Int32)) (h : fX10_turnsTo c_this_of v_p1 v_p2 v_p3 v_p4 v_p5 = some r0) : Met l yX10_turnsTo (rk_w yX10_turnsTo cX10_turnsTo 6 none) rmX10_turnsTo (va_Pc [.ref a_this, .int v_p1, .int v_p2, .int v_p3, .int v_p4, .int v_p5] (rk_B D (rk_TY cI cJ cO) [(a_this, .inr (9, [.ref a_this_chosen, .ref a_this_factorial, .ref a_this_catalan, .ref a_this_parted, .ref a_this_closed, .int f_this_now, .ref a_this_of, .ref a_this_buffer, .ref a_this_made, .ref a_this_stackOne, .ref a_this_stackOther, .ref a_this_stackLong, .ref a_this_left, .int f_this_entryMany, .ref a_this_entryFamily, .ref a_this_entryOf, .ref a_this_entryRank])), (a_this_of, .inl (cI, 4, .inl c_this_of))] [] PL sz)) (rk_Qv D [(a_this, .inr (9, [.ref a_this_chosen, .ref a_this_factorial, .ref a_this_catalan, .ref a_this_parted, .ref a_this_closed, .int r0.1, .ref a_this_of, .ref a_this_buffer, .ref a_this_made, .ref a_this_stackOne, .ref a_this_stackOther, .ref a_this_stackLong, .ref a_this_left, .int f_this_entryMany, .ref a_this_entryFamily, .ref a_this_entryOf, .ref a_this_entryRank])), (a_this_of, .inl (cI, 4, .inl r0.2))] [(a_this, .inr (9, [.ref a_this_chosen, .ref a_this_factorial, .ref a_this_catalan, .ref a_this_parted, .ref a_this_closed, .int f_this_now, .ref a_this_of, .ref a_this_buffer, .ref a_this_made, .ref a_this_stackOne, .ref a_this_stackOther, .ref a_this_stackLong, .ref a_this_left, .int f_this_entryMany, .ref a_this_entryFamily, .ref a_this_entryOf, .ref a_this_entryRank])), (a_this_of, .inl (cI, 4, .inl c_this_of))] sz) 0 0 (va_A [(a_this, .inr (9, [.ref a_this_chosen, .ref a_this_factorial, .ref a_this_catalan, .ref a_this_parted, .ref a_this_closed, .int f_this_now, .ref a_this_of, .ref a_this_buffer, .ref a_this_made, .ref a_this_stackOne, .ref a_this_stackOther, .ref a_this_stackLong, .ref a_this_left, .int f_this_entryMany, .ref a_this_entryFamily, .ref a_this_entryOf, .ref a_this_entryRank])), (a_this_of, .inl (cI, 4, .inl c_this_of))] sz) := by
  refine rk_metv h (fun x => [(a_this, .inr (9, [.ref a_this_chosen, .ref a_this_factorial, .ref a_this_catalan, .ref a_this_parted, .ref a_this_closed, .int x.1, .ref a_this_of, .ref a_this_buffer, .ref a_this_made, .ref a_this_stackOne, .ref a_this_stackOther, .ref a_this_stackLong, .ref a_this_left, .int f_this_entryMany, .ref a_this_entryFamily, .ref a_this_entryOf, .ref a_this_entryRank])), (a_this_of, .inl (cI, 4, .inl x.2))]) (by decide) (Nat.le_of_ble_eq_true rfl) ?_
  intro p e s m args below meth c A ls Q hret hname hF hP hD hA hV hR0 hn hPL hnl hl h hS
  have hx := hF.1
  have hb := hF.2.1
  have hml := hF.2.2.1
  have hown : s.vm.findClass RX10 = some m.cls := hF.2.2.2.1
  have htc := hF.2.2.2.2
  have hP : va_P D vwCl [(a_this, .inr (9, [.ref a_this_chosen, .ref a_this_factorial, .ref a_this_catalan, .ref a_this_parted, .ref a_this_closed, .int f_this_now, .ref a_this_of, .ref a_this_buffer, .ref a_this_made, .ref a_this_stackOne, .ref a_this_stackOther, .ref a_this_stackLong, .ref a_this_left, .int f_this_entryMany, .ref a_this_entryFamily, .ref a_this_entryOf, .ref a_this_entryRank])), (a_this_of, .inl (cI, 4, .inl c_this_of))] s.heap := hP
  have hD : va_D A [(a_this, .inr (9, [.ref a_this_chosen, .ref a_this_factorial, .ref a_this_catalan, .ref a_this_parted, .ref a_this_closed, .int f_this_now, .ref a_this_of, .ref a_this_buffer, .ref a_this_made, .ref a_this_stackOne, .ref a_this_stackOther, .ref a_this_stackLong, .ref a_this_left, .int f_this_entryMany, .ref a_this_entryFamily, .ref a_this_entryOf, .ref a_this_entryRank])), (a_this_of, .inl (cI, 4, .inl c_this_of))] := hD
  have hR0 : va_P D vwCl [] s.heap := hR0
  have hR := hR0
  have hl : lv_has ls 6 [(0, .ref a_this), (1, .int v_p1), (2, .int v_p2), (3, .int v_p3), (4, .int v_p4), (5, .int v_p5)] := hl
  unfold fX10_turnsTo at h
  refine lv_aload_n hx hb dX10_turnsTo_0 rfl (lv_at hl 0 rfl) ?_
  refine lv_iload_n hx hb dX10_turnsTo_1 rfl (lv_at hl 1 rfl) ?_
  refine va_put (D := D) (ci := 9) (v := .int v_p1) (ty := .int) (C := RX10) (T := TX10) (N := 17) hx hb htc inX10 tyX10 tyX10_ok nmX10 hown hV.1 hP hD hS 0 rfl rfl 5 (by decide) (htc _ w_4_3) (fun _ h9 => h9) rfl (by decide +kernel) rfl rfl (Nat.le_of_ble_eq_true rfl) dX10_turnsTo_2 (fun H locs hP hD hS => ?_)
  have hP : va_P D vwCl [(a_this, .inr (9, [.ref a_this_chosen, .ref a_this_factorial, .ref a_this_catalan, .ref a_this_parted, .ref a_this_closed, .int v_p1, .ref a_this_of, .ref a_this_buffer, .ref a_this_made, .ref a_this_stackOne, .ref a_this_stackOther, .ref a_this_stackLong, .ref a_this_left, .int f_this_entryMany, .ref a_this_entryFamily, .ref a_this_entryOf, .ref a_this_entryRank])), (a_this_of, .inl (cI, 4, .inl c_this_of))] H := hP
  have hD : va_D A [(a_this, .inr (9, [.ref a_this_chosen, .ref a_this_factorial, .ref a_this_catalan, .ref a_this_parted, .ref a_this_closed, .int v_p1, .ref a_this_of, .ref a_this_buffer, .ref a_this_made, .ref a_this_stackOne, .ref a_this_stackOther, .ref a_this_stackLong, .ref a_this_left, .int f_this_entryMany, .ref a_this_entryFamily, .ref a_this_entryOf, .ref a_this_entryRank])), (a_this_of, .inl (cI, 4, .inl c_this_of))] := hD
  refine lv_aload_n hx hb dX10_turnsTo_5 rfl (lv_at hl 0 rfl) ?_
  refine va_get (D := D) (ci := 9) (v := .ref a_this_of) (C := RX10) (T := TX10) (N := 17) hx hb htc inX10 hown hV.1 hP 0 rfl rfl 6 (by decide) (htc _ w_4_4) (fun _ h9 => h9) rfl dX10_turnsTo_6 ?_
  refine lv_iconst (v := 0) hx hb dX10_turnsTo_9 (by decide) ?_
  refine lv_iload_n hx hb dX10_turnsTo_10 rfl (lv_at hl 2 rfl) ?_
  refine va_iast hx hb hV.1 hP hD hS 1 0 rfl rfl (show vp_in (0 : Int32) 4 from (by decide : ¬ ((0 : Int32) < 0 ∨ 4 ≤ (0 : Int32).toNatClampNeg))) dX10_turnsTo_11 (fun H locs hP hD hS => ?_)
  have hP : va_P D vwCl [(a_this, .inr (9, [.ref a_this_chosen, .ref a_this_factorial, .ref a_this_catalan, .ref a_this_parted, .ref a_this_closed, .int v_p1, .ref a_this_of, .ref a_this_buffer, .ref a_this_made, .ref a_this_stackOne, .ref a_this_stackOther, .ref a_this_stackLong, .ref a_this_left, .int f_this_entryMany, .ref a_this_entryFamily, .ref a_this_entryOf, .ref a_this_entryRank])), (a_this_of, .inl (cI, 4, .inl (upd c_this_of 0 v_p2)))] H := hP
  have hD : va_D A [(a_this, .inr (9, [.ref a_this_chosen, .ref a_this_factorial, .ref a_this_catalan, .ref a_this_parted, .ref a_this_closed, .int v_p1, .ref a_this_of, .ref a_this_buffer, .ref a_this_made, .ref a_this_stackOne, .ref a_this_stackOther, .ref a_this_stackLong, .ref a_this_left, .int f_this_entryMany, .ref a_this_entryFamily, .ref a_this_entryOf, .ref a_this_entryRank])), (a_this_of, .inl (cI, 4, .inl (upd c_this_of 0 v_p2)))] := hD
  refine lv_aload_n hx hb dX10_turnsTo_12 rfl (lv_at hl 0 rfl) ?_
  refine va_get (D := D) (ci := 9) (v := .ref a_this_of) (C := RX10) (T := TX10) (N := 17) hx hb htc inX10 hown hV.1 hP 0 rfl rfl 6 (by decide) (htc _ w_4_4) (fun _ h9 => h9) rfl dX10_turnsTo_13 ?_
  refine lv_iconst (v := 1) hx hb dX10_turnsTo_16 (by decide) ?_
  refine lv_iload_n hx hb dX10_turnsTo_17 rfl (lv_at hl 3 rfl) ?_
  refine va_iast hx hb hV.1 hP hD hS 1 0 rfl rfl (show vp_in (1 : Int32) 4 from (by decide : ¬ ((1 : Int32) < 0 ∨ 4 ≤ (1 : Int32).toNatClampNeg))) dX10_turnsTo_18 (fun H locs hP hD hS => ?_)
  have hP : va_P D vwCl [(a_this, .inr (9, [.ref a_this_chosen, .ref a_this_factorial, .ref a_this_catalan, .ref a_this_parted, .ref a_this_closed, .int v_p1, .ref a_this_of, .ref a_this_buffer, .ref a_this_made, .ref a_this_stackOne, .ref a_this_stackOther, .ref a_this_stackLong, .ref a_this_left, .int f_this_entryMany, .ref a_this_entryFamily, .ref a_this_entryOf, .ref a_this_entryRank])), (a_this_of, .inl (cI, 4, .inl (upd (upd c_this_of 0 v_p2) 1 v_p3)))] H := hP
  have hD : va_D A [(a_this, .inr (9, [.ref a_this_chosen, .ref a_this_factorial, .ref a_this_catalan, .ref a_this_parted, .ref a_this_closed, .int v_p1, .ref a_this_of, .ref a_this_buffer, .ref a_this_made, .ref a_this_stackOne, .ref a_this_stackOther, .ref a_this_stackLong, .ref a_this_left, .int f_this_entryMany, .ref a_this_entryFamily, .ref a_this_entryOf, .ref a_this_entryRank])), (a_this_of, .inl (cI, 4, .inl (upd (upd c_this_of 0 v_p2) 1 v_p3)))] := hD
  refine lv_aload_n hx hb dX10_turnsTo_19 rfl (lv_at hl 0 rfl) ?_
  refine va_get (D := D) (ci := 9) (v := .ref a_this_of) (C := RX10) (T := TX10) (N := 17) hx hb htc inX10 hown hV.1 hP 0 rfl rfl 6 (by decide) (htc _ w_4_4) (fun _ h9 => h9) rfl dX10_turnsTo_20 ?_
  refine lv_iconst (v := 2) hx hb dX10_turnsTo_23 (by decide) ?_
  refine lv_iload hx hb dX10_turnsTo_24 (lv_at hl 4 rfl) ?_
  refine va_iast hx hb hV.1 hP hD hS 1 0 rfl rfl (show vp_in (2 : Int32) 4 from (by decide : ¬ ((2 : Int32) < 0 ∨ 4 ≤ (2 : Int32).toNatClampNeg))) dX10_turnsTo_26 (fun H locs hP hD hS => ?_)
  have hP : va_P D vwCl [(a_this, .inr (9, [.ref a_this_chosen, .ref a_this_factorial, .ref a_this_catalan, .ref a_this_parted, .ref a_this_closed, .int v_p1, .ref a_this_of, .ref a_this_buffer, .ref a_this_made, .ref a_this_stackOne, .ref a_this_stackOther, .ref a_this_stackLong, .ref a_this_left, .int f_this_entryMany, .ref a_this_entryFamily, .ref a_this_entryOf, .ref a_this_entryRank])), (a_this_of, .inl (cI, 4, .inl (upd (upd (upd c_this_of 0 v_p2) 1 v_p3) 2 v_p4)))] H := hP
  have hD : va_D A [(a_this, .inr (9, [.ref a_this_chosen, .ref a_this_factorial, .ref a_this_catalan, .ref a_this_parted, .ref a_this_closed, .int v_p1, .ref a_this_of, .ref a_this_buffer, .ref a_this_made, .ref a_this_stackOne, .ref a_this_stackOther, .ref a_this_stackLong, .ref a_this_left, .int f_this_entryMany, .ref a_this_entryFamily, .ref a_this_entryOf, .ref a_this_entryRank])), (a_this_of, .inl (cI, 4, .inl (upd (upd (upd c_this_of 0 v_p2) 1 v_p3) 2 v_p4)))] := hD
  refine lv_aload_n hx hb dX10_turnsTo_27 rfl (lv_at hl 0 rfl) ?_
  refine va_get (D := D) (ci := 9) (v := .ref a_this_of) (C := RX10) (T := TX10) (N := 17) hx hb htc inX10 hown hV.1 hP 0 rfl rfl 6 (by decide) (htc _ w_4_4) (fun _ h9 => h9) rfl dX10_turnsTo_28 ?_
  refine lv_iconst (v := 3) hx hb dX10_turnsTo_31 (by decide) ?_
  refine lv_iload hx hb dX10_turnsTo_32 (lv_at hl 5 rfl) ?_
  refine va_iast hx hb hV.1 hP hD hS 1 0 rfl rfl (show vp_in (3 : Int32) 4 from (by decide : ¬ ((3 : Int32) < 0 ∨ 4 ≤ (3 : Int32).toNatClampNeg))) dX10_turnsTo_34 (fun H locs hP hD hS => ?_)
  have hP : va_P D vwCl [(a_this, .inr (9, [.ref a_this_chosen, .ref a_this_factorial, .ref a_this_catalan, .ref a_this_parted, .ref a_this_closed, .int v_p1, .ref a_this_of, .ref a_this_buffer, .ref a_this_made, .ref a_this_stackOne, .ref a_this_stackOther, .ref a_this_stackLong, .ref a_this_left, .int f_this_entryMany, .ref a_this_entryFamily, .ref a_this_entryOf, .ref a_this_entryRank])), (a_this_of, .inl (cI, 4, .inl (upd (upd (upd (upd c_this_of 0 v_p2) 1 v_p3) 2 v_p4) 3 v_p5)))] H := hP
  have hD : va_D A [(a_this, .inr (9, [.ref a_this_chosen, .ref a_this_factorial, .ref a_this_catalan, .ref a_this_parted, .ref a_this_closed, .int v_p1, .ref a_this_of, .ref a_this_buffer, .ref a_this_made, .ref a_this_stackOne, .ref a_this_stackOther, .ref a_this_stackLong, .ref a_this_left, .int f_this_entryMany, .ref a_this_entryFamily, .ref a_this_entryOf, .ref a_this_entryRank])), (a_this_of, .inl (cI, 4, .inl (upd (upd (upd (upd c_this_of 0 v_p2) 1 v_p3) 2 v_p4) 3 v_p5)))] := hD
  exact hret (v_p1, (upd (upd (upd (upd c_this_of 0 v_p2) 1 v_p3) 2 v_p4) 3 v_p5)) _ _ _ _ h dX10_turnsTo_35 hP hD hS
set_option maxHeartbeats 4000000 in
set_option maxRecDepth 100000 in
theorem mtX10_makesSubset (l : Launch) (D : va_G) (cI cJ cO : ClassId) (PL : va_W) (sz : Nat) (a_this : Nat) (a_this_chosen : Nat) (a_this_factorial : Nat) (a_this_catalan : Nat) (a_this_parted : Nat) (a_this_closed : Nat) (f_this_now : Int32) (a_this_of : Nat) (a_this_buffer : Nat) (a_this_made : Nat) (a_this_stackOne : Nat) (a_this_stackOther : Nat) (a_this_stackLong : Nat) (a_this_left : Nat) (f_this_entryMany : Int32) (a_this_entryFamily : Nat) (a_this_entryOf : Nat) (a_this_entryRank : Nat) (c_this_made : Nat → Int32) (c_this_chosen : Nat → Int64) (c_this_of : Nat → Int32) (v_p1 : Int64) (r0 : (Nat → Int32)) (h : fX10_makesSubset c_this_made c_this_chosen c_this_of v_p1 = some r0) : Met l yX10_makesSubset (rk_w yX10_makesSubset cX10_makesSubset 9 none) rmX10_makesSubset (va_Pc [.ref a_this, .long v_p1] (rk_B D (rk_TY cI cJ cO) [(a_this_made, .inl (cI, 60, .inl c_this_made))] [(a_this, .inr (9, [.ref a_this_chosen, .ref a_this_factorial, .ref a_this_catalan, .ref a_this_parted, .ref a_this_closed, .int f_this_now, .ref a_this_of, .ref a_this_buffer, .ref a_this_made, .ref a_this_stackOne, .ref a_this_stackOther, .ref a_this_stackLong, .ref a_this_left, .int f_this_entryMany, .ref a_this_entryFamily, .ref a_this_entryOf, .ref a_this_entryRank])), (a_this_chosen, .inl (cJ, 3721, .inr (.inl c_this_chosen))), (a_this_of, .inl (cI, 4, .inl c_this_of))] PL sz)) (rk_Qv D [(a_this_made, .inl (cI, 60, .inl r0))] [(a_this_made, .inl (cI, 60, .inl c_this_made))] sz) 0 0 (va_A [(a_this_made, .inl (cI, 60, .inl c_this_made))] sz) := by
  refine rk_metv h (fun x => [(a_this_made, .inl (cI, 60, .inl x))]) (by decide) (Nat.le_of_ble_eq_true rfl) ?_
  intro p e s m args below meth c A ls Q hret hname hF hP hD hA hV hR0 hn hPL hnl hl h hS
  have hx := hF.1
  have hb := hF.2.1
  have hml := hF.2.2.1
  have hown : s.vm.findClass RX10 = some m.cls := hF.2.2.2.1
  have htc := hF.2.2.2.2
  have hP : va_P D vwCl [(a_this_made, .inl (cI, 60, .inl c_this_made))] s.heap := hP
  have hD : va_D A [(a_this_made, .inl (cI, 60, .inl c_this_made))] := hD
  have hR0 : va_P D vwCl [(a_this, .inr (9, [.ref a_this_chosen, .ref a_this_factorial, .ref a_this_catalan, .ref a_this_parted, .ref a_this_closed, .int f_this_now, .ref a_this_of, .ref a_this_buffer, .ref a_this_made, .ref a_this_stackOne, .ref a_this_stackOther, .ref a_this_stackLong, .ref a_this_left, .int f_this_entryMany, .ref a_this_entryFamily, .ref a_this_entryOf, .ref a_this_entryRank])), (a_this_chosen, .inl (cJ, 3721, .inr (.inl c_this_chosen))), (a_this_of, .inl (cI, 4, .inl c_this_of))] s.heap := hR0
  have hR := hR0
  have hl : lv_has ls 9 [(0, .ref a_this), (1, .long v_p1)] := hl
  unfold fX10_makesSubset at h
  refine lv_aload_n hx hb dX10_makesSubset_0 rfl (lv_at hl 0 rfl) ?_
  refine va_get (D := D) (ci := 9) (v := .ref a_this_of) (C := RX10) (T := TX10) (N := 17) hx hb htc inX10 hown hV.1 hR 0 rfl rfl 6 (by decide) (htc _ w_4_4) (fun _ h9 => h9) rfl dX10_makesSubset_1 ?_
  refine lv_iconst (v := 0) hx hb dX10_makesSubset_4 (by decide) ?_
  refine va_iald hx hb hV.1 hR 2 0 rfl rfl (show vp_in (0 : Int32) 4 from (by decide : ¬ ((0 : Int32) < 0 ∨ 4 ≤ (0 : Int32).toNatClampNeg))) dX10_makesSubset_5 ?_
  refine W.eq (g2 := F0 m 6 ls [.int (c_this_of 0)]) rfl ?_
  refine lv_istore_n (lv' := [(3, .int (c_this_of 0)), (0, .ref a_this), (1, .long v_p1)]) hx hb dX10_makesSubset_6 rfl hl (by decide) rfl (fun ls hl => ?_)
  refine lv_aload_n hx hb dX10_makesSubset_7 rfl (lv_at hl 1 rfl) ?_
  refine va_get (D := D) (ci := 9) (v := .ref a_this_of) (C := RX10) (T := TX10) (N := 17) hx hb htc inX10 hown hV.1 hR 0 rfl rfl 6 (by decide) (htc _ w_4_4) (fun _ h9 => h9) rfl dX10_makesSubset_8 ?_
  refine lv_iconst (v := 1) hx hb dX10_makesSubset_11 (by decide) ?_
  refine va_iald hx hb hV.1 hR 2 0 rfl rfl (show vp_in (1 : Int32) 4 from (by decide : ¬ ((1 : Int32) < 0 ∨ 4 ≤ (1 : Int32).toNatClampNeg))) dX10_makesSubset_12 ?_
  refine W.eq (g2 := F0 m 13 ls [.int (c_this_of 1)]) rfl ?_
  refine lv_istore (lv' := [(4, .int (c_this_of 1)), (3, .int (c_this_of 0)), (0, .ref a_this), (1, .long v_p1)]) hx hb dX10_makesSubset_13 hl (by decide) rfl (fun ls hl => ?_)
  refine lv_lload_n hx hb dX10_makesSubset_15 rfl (lv_at hl 3 rfl) ?_
  refine lv_lstore (lv' := [(5, .long v_p1), (4, .int (c_this_of 1)), (3, .int (c_this_of 0)), (0, .ref a_this), (1, .long v_p1)]) hx hb dX10_makesSubset_16 hl (by decide) rfl (fun ls hl => ?_)
  refine lv_aload_n hx hb dX10_makesSubset_18 rfl (lv_at hl 3 rfl) ?_
  refine va_get (D := D) (ci := 9) (v := .ref a_this_of) (C := RX10) (T := TX10) (N := 17) hx hb htc inX10 hown hV.1 hR 0 rfl rfl 6 (by decide) (htc _ w_4_4) (fun _ h9 => h9) rfl dX10_makesSubset_19 ?_
  refine lv_iconst (v := 2) hx hb dX10_makesSubset_22 (by decide) ?_
  refine va_iald hx hb hV.1 hR 2 0 rfl rfl (show vp_in (2 : Int32) 4 from (by decide : ¬ ((2 : Int32) < 0 ∨ 4 ≤ (2 : Int32).toNatClampNeg))) dX10_makesSubset_23 ?_
  refine W.eq (g2 := F0 m 24 ls [.int (c_this_of 2)]) rfl ?_
  refine lv_if_ne (tgt := 110) hx hb dX10_makesSubset_24 (by decide) (fun hc1 => ?_) (fun hc1 => ?_)
  · have h := rk_if hc1 h
    refine lv_iload hx hb dX10_makesSubset_110 (lv_at hl 1 rfl) ?_
    refine lv_istore (lv' := [(7, .int (c_this_of 1)), (5, .long v_p1), (4, .int (c_this_of 1)), (3, .int (c_this_of 0)), (0, .ref a_this), (1, .long v_p1)]) hx hb dX10_makesSubset_112 hl (by decide) rfl (fun ls hl => ?_)
    have L114 : ∀ (n114 : Nat) (b114_l5 : Int64) (b114_l7 : Int32) (b114_c_this_made : Nat → Int32), rk_it3 (fX10_makesSubset_L114 c_this_chosen c_this_of) n114 b114_l5 b114_l7 b114_c_this_made = some r0 → ∀ (H : Heap) (locs : List Loc), va_P D vwCl [(a_this_made, .inl (cI, 60, .inl b114_c_this_made))] H → va_D A [(a_this_made, .inl (cI, 60, .inl b114_c_this_made))] → va_S A s.heap H locs → ∀ (ls : Array Slot), lv_has ls 9 [(0, .ref a_this), (5, .long b114_l5), (7, .int b114_l7)] → W p l e rmX10_makesSubset s m args below meth c H locs 0 0 Q (F0 m 114 ls []) := by
      intro n114
      induction n114 with
      | zero => intro b114_l5 b114_l7 b114_c_this_made h; exact rk_no h
      | succ n114 ih114 =>
        intro b114_l5 b114_l7 b114_c_this_made h H locs hP hD hS ls hl
        have h : fX10_makesSubset_L114 c_this_chosen c_this_of (rk_it3 (fX10_makesSubset_L114 c_this_chosen c_this_of) n114) b114_l5 b114_l7 b114_c_this_made = some r0 := h
        unfold fX10_makesSubset_L114 at h
        have hR := rk_keep hR0 hn hS
        refine lv_iload hx hb dX10_makesSubset_114 (lv_at hl 2 rfl) ?_
        refine lv_if_le (tgt := 205) hx hb dX10_makesSubset_116 (by decide) (fun hc2 => ?_) (fun hc2 => ?_)
        · have h := rk_if hc2 h
          exact hret b114_c_this_made _ _ _ _ h dX10_makesSubset_205 hP hD hS
        · have h := rk_nif hc2 h
          refine lv_iload hx hb dX10_makesSubset_119 (lv_at hl 2 rfl) ?_
          refine lv_iconst (v := 1) hx hb dX10_makesSubset_121 (by decide) ?_
          refine lv_isub hx hb dX10_makesSubset_122 ?_
          refine lv_istore (lv' := [(8, .int (b114_l7 - (1 : Int32))), (0, .ref a_this), (5, .long b114_l5), (7, .int b114_l7)]) hx hb dX10_makesSubset_123 hl (by decide) rfl (fun ls hl => ?_)
          have L125 : ∀ (n125 : Nat) (b125_l8 : Int32), rk_it1 (fX10_makesSubset_L125 c_this_chosen c_this_of b114_l5 b114_l7 b114_c_this_made (rk_it3 (fX10_makesSubset_L114 c_this_chosen c_this_of) n114)) n125 b125_l8 = some r0 → ∀ (H : Heap) (locs : List Loc), va_P D vwCl [(a_this_made, .inl (cI, 60, .inl b114_c_this_made))] H → va_D A [(a_this_made, .inl (cI, 60, .inl b114_c_this_made))] → va_S A s.heap H locs → ∀ (ls : Array Slot), lv_has ls 9 [(0, .ref a_this), (5, .long b114_l5), (7, .int b114_l7), (8, .int b125_l8)] → W p l e rmX10_makesSubset s m args below meth c H locs 0 0 Q (F0 m 125 ls []) := by
            intro n125
            induction n125 with
            | zero => intro b125_l8 h; exact rk_no h
            | succ n125 ih125 =>
              intro b125_l8 h H locs hP hD hS ls hl
              have h : fX10_makesSubset_L125 c_this_chosen c_this_of b114_l5 b114_l7 b114_c_this_made (rk_it3 (fX10_makesSubset_L114 c_this_chosen c_this_of) n114) (rk_it1 (fX10_makesSubset_L125 c_this_chosen c_this_of b114_l5 b114_l7 b114_c_this_made (rk_it3 (fX10_makesSubset_L114 c_this_chosen c_this_of) n114)) n125) b125_l8 = some r0 := h
              unfold fX10_makesSubset_L125 at h
              have hR := rk_keep hR0 hn hS
              refine lv_aload_n hx hb dX10_makesSubset_125 rfl (lv_at hl 0 rfl) ?_
              refine lv_iload hx hb dX10_makesSubset_126 (lv_at hl 3 rfl) ?_
              refine lv_iconst (v := 1) hx hb dX10_makesSubset_128 (by decide) ?_
              refine lv_iadd hx hb dX10_makesSubset_129 ?_
              refine lv_iload hx hb dX10_makesSubset_130 (lv_at hl 2 rfl) ?_
              obtain ⟨r_132, hc_132, h⟩ := rk_bd h
              refine rk_l (wr := [(a_this_made, .inl (cI, 60, .inl b114_c_this_made))]) (va_runV (C := RX10) (As := [.int (b125_l8 + (1 : Int32)), .int b114_l7]) (rest := []) hF (mtX10_choose l D cI cJ cO PL _ a_this a_this_chosen a_this_factorial a_this_catalan a_this_parted a_this_closed f_this_now a_this_of a_this_buffer a_this_made a_this_stackOne a_this_stackOther a_this_stackLong a_this_left f_this_entryMany a_this_entryFamily a_this_entryOf a_this_entryRank c_this_chosen (b125_l8 + (1 : Int32)) b114_l7 r_132 hc_132) (cwV 2 htc (rk_gV w_4_75 w_4_77 ws_39 w_1_7 w_4_78) rfl rfl rfl (by decide +kernel) ⟨(Nat.le_of_ble_eq_true rfl), (Nat.le_of_ble_eq_true rfl)⟩) (rk_preV (va_recv hV.1 hR (ci := 9) (q0 := 0) rfl rfl) (rk_preS hP hD hS hR hn hPL hnl hV [] [(false, 0), (false, 1)] rfl (by decide) rfl (by decide))) rfl rfl hl.1 rfl (lv_room (Nat.le_of_ble_eq_true rfl)) dX10_makesSubset_132 ⟨(Nat.le_of_ble_eq_true rfl), (Nat.le_of_ble_eq_true rfl)⟩) hP hD hS hA hR0 hn [] [0] rfl rfl (by decide) (by decide) (fun H locs hP hD hS hR => ?_)
              have hP : va_P D vwCl [(a_this_made, .inl (cI, 60, .inl b114_c_this_made))] H := hP
              have hD : va_D A [(a_this_made, .inl (cI, 60, .inl b114_c_this_made))] := hD
              refine lv_lload hx hb dX10_makesSubset_135 (lv_at hl 1 rfl) ?_
              refine rk_lcgt (tgt := 147) hx hb dX10_makesSubset_137 dX10_makesSubset_138 (by decide) (fun hc3 => ?_) (fun hc3 => ?_)
              · have h := rk_if hc3 h
                refine lv_aload_n hx hb dX10_makesSubset_147 rfl (lv_at hl 0 rfl) ?_
                refine va_get (D := D) (ci := 9) (v := .ref a_this_made) (C := RX10) (T := TX10) (N := 17) hx hb htc inX10 hown hV.1 hR 0 rfl rfl 8 (by decide) (htc _ w_4_6) (fun _ h9 => h9) rfl dX10_makesSubset_148 ?_
                refine lv_iload hx hb dX10_makesSubset_151 (lv_at hl 2 rfl) ?_
                refine lv_iconst (v := 1) hx hb dX10_makesSubset_153 (by decide) ?_
                refine lv_isub hx hb dX10_makesSubset_154 ?_
                refine lv_iload hx hb dX10_makesSubset_155 (lv_at hl 3 rfl) ?_
                obtain ⟨hg4, h⟩ := rk_gd h
                refine va_iast hx hb hV.1 hP hD hS 0 0 rfl rfl hg4 dX10_makesSubset_157 (fun H locs hP hD hS => ?_)
                have hP : va_P D vwCl [(a_this_made, .inl (cI, 60, .inl (upd b114_c_this_made (b114_l7 - (1 : Int32)).toNatClampNeg b125_l8)))] H := hP
                have hD : va_D A [(a_this_made, .inl (cI, 60, .inl (upd b114_c_this_made (b114_l7 - (1 : Int32)).toNatClampNeg b125_l8)))] := hD
                have hR := rk_keep hR0 hn hS
                refine lv_aload_n hx hb dX10_makesSubset_158 rfl (lv_at hl 0 rfl) ?_
                refine va_get (D := D) (ci := 9) (v := .ref a_this_of) (C := RX10) (T := TX10) (N := 17) hx hb htc inX10 hown hV.1 hR 0 rfl rfl 6 (by decide) (htc _ w_4_4) (fun _ h9 => h9) rfl dX10_makesSubset_159 ?_
                refine lv_iconst (v := 2) hx hb dX10_makesSubset_162 (by decide) ?_
                refine va_iald hx hb hV.1 hR 2 0 rfl rfl (show vp_in (2 : Int32) 4 from (by decide : ¬ ((2 : Int32) < 0 ∨ 4 ≤ (2 : Int32).toNatClampNeg))) dX10_makesSubset_163 ?_
                refine W.eq (g2 := F0 m 164 ls [.int (c_this_of 2)]) rfl ?_
                refine lv_iconst (v := 1) hx hb dX10_makesSubset_164 (by decide) ?_
                have B197 : ∀ (b197_t0 : Int64), fX10_makesSubset_B197 b114_l7 b114_c_this_made (rk_it3 (fX10_makesSubset_L114 c_this_chosen c_this_of) n114) b125_l8 b197_t0 = some r0 → ∀ (H : Heap) (locs : List Loc), va_P D vwCl [(a_this_made, .inl (cI, 60, .inl (upd b114_c_this_made (b114_l7 - (1 : Int32)).toNatClampNeg b125_l8)))] H → va_D A [(a_this_made, .inl (cI, 60, .inl (upd b114_c_this_made (b114_l7 - (1 : Int32)).toNatClampNeg b125_l8)))] → va_S A s.heap H locs → ∀ (ls : Array Slot), lv_has ls 9 [(0, .ref a_this), (7, .int b114_l7)] → W p l e rmX10_makesSubset s m args below meth c H locs 0 0 Q (F0 m 197 ls [.long b197_t0]) := by
                  intro b197_t0 h H locs hP hD hS ls hl
                  unfold fX10_makesSubset_B197 at h
                  have hR := rk_keep hR0 hn hS
                  refine lv_lstore (lv' := [(5, .long b197_t0), (0, .ref a_this), (7, .int b114_l7)]) hx hb dX10_makesSubset_197 hl (by decide) rfl (fun ls hl => ?_)
                  refine lv_iinc (v := (b114_l7 + (-1))) (lv' := [(7, .int (b114_l7 + (-1))), (5, .long b197_t0), (0, .ref a_this)]) hx hb dX10_makesSubset_199 hl (k := 2) rfl rfl (by decide) rfl (fun ls hl => ?_)
                  refine lv_goto (tgt := 114) hx hb dX10_makesSubset_202 (by decide) ?_
                  exact ih114 b197_t0 (b114_l7 + (-1)) (upd b114_c_this_made (b114_l7 - (1 : Int32)).toNatClampNeg b125_l8) h _ _ hP hD hS _ (lv_sub hl [2, 1, 0] rfl)
                refine lv_icmp_ne (tgt := 182) hx hb dX10_makesSubset_165 (by decide) (fun hc5 => ?_) (fun hc5 => ?_)
                · have h := rk_if hc5 h
                  refine lv_aload_n hx hb dX10_makesSubset_182 rfl (lv_at hl 0 rfl) ?_
                  refine lv_iload hx hb dX10_makesSubset_183 (lv_at hl 3 rfl) ?_
                  refine lv_iconst (v := 1) hx hb dX10_makesSubset_185 (by decide) ?_
                  refine lv_iadd hx hb dX10_makesSubset_186 ?_
                  refine lv_iload hx hb dX10_makesSubset_187 (lv_at hl 2 rfl) ?_
                  obtain ⟨r_189, hc_189, h⟩ := rk_bd h
                  refine rk_l (wr := [(a_this_made, .inl (cI, 60, .inl (upd b114_c_this_made (b114_l7 - (1 : Int32)).toNatClampNeg b125_l8)))]) (va_runV (C := RX10) (As := [.int (b125_l8 + (1 : Int32)), .int b114_l7]) (rest := []) hF (mtX10_choose l D cI cJ cO PL _ a_this a_this_chosen a_this_factorial a_this_catalan a_this_parted a_this_closed f_this_now a_this_of a_this_buffer a_this_made a_this_stackOne a_this_stackOther a_this_stackLong a_this_left f_this_entryMany a_this_entryFamily a_this_entryOf a_this_entryRank c_this_chosen (b125_l8 + (1 : Int32)) b114_l7 r_189 hc_189) (cwV 2 htc (rk_gV w_4_75 w_4_77 ws_39 w_1_7 w_4_78) rfl rfl rfl (by decide +kernel) ⟨(Nat.le_of_ble_eq_true rfl), (Nat.le_of_ble_eq_true rfl)⟩) (rk_preV (va_recv hV.1 hR (ci := 9) (q0 := 0) rfl rfl) (rk_preS hP hD hS hR hn hPL hnl hV [] [(false, 0), (false, 1)] rfl (by decide) rfl (by decide))) rfl rfl hl.1 rfl (lv_room (Nat.le_of_ble_eq_true rfl)) dX10_makesSubset_189 ⟨(Nat.le_of_ble_eq_true rfl), (Nat.le_of_ble_eq_true rfl)⟩) hP hD hS hA hR0 hn [] [0] rfl rfl (by decide) (by decide) (fun H locs hP hD hS hR => ?_)
                  have hP : va_P D vwCl [(a_this_made, .inl (cI, 60, .inl (upd b114_c_this_made (b114_l7 - (1 : Int32)).toNatClampNeg b125_l8)))] H := hP
                  have hD : va_D A [(a_this_made, .inl (cI, 60, .inl (upd b114_c_this_made (b114_l7 - (1 : Int32)).toNatClampNeg b125_l8)))] := hD
                  refine lv_lconst (v := 1) hx hb dX10_makesSubset_192 (by decide) ?_
                  refine lv_lsub hx hb dX10_makesSubset_193 ?_
                  refine lv_lload hx hb dX10_makesSubset_194 (lv_at hl 1 rfl) ?_
                  refine lv_lsub hx hb dX10_makesSubset_196 ?_
                  exact B197 ((r_189 - (1 : Int64)) - b114_l5) h _ _ hP hD hS _ (lv_sub hl [0, 2] rfl)
                · have h := rk_nnif hc5 h
                  refine lv_lload hx hb dX10_makesSubset_168 (lv_at hl 1 rfl) ?_
                  refine lv_aload_n hx hb dX10_makesSubset_170 rfl (lv_at hl 0 rfl) ?_
                  refine lv_iload hx hb dX10_makesSubset_171 (lv_at hl 3 rfl) ?_
                  refine lv_iload hx hb dX10_makesSubset_173 (lv_at hl 2 rfl) ?_
                  obtain ⟨r_175, hc_175, h⟩ := rk_bd h
                  refine rk_l (wr := [(a_this_made, .inl (cI, 60, .inl (upd b114_c_this_made (b114_l7 - (1 : Int32)).toNatClampNeg b125_l8)))]) (va_runV (C := RX10) (As := [.int b125_l8, .int b114_l7]) (rest := [.long b114_l5]) hF (mtX10_choose l D cI cJ cO PL _ a_this a_this_chosen a_this_factorial a_this_catalan a_this_parted a_this_closed f_this_now a_this_of a_this_buffer a_this_made a_this_stackOne a_this_stackOther a_this_stackLong a_this_left f_this_entryMany a_this_entryFamily a_this_entryOf a_this_entryRank c_this_chosen b125_l8 b114_l7 r_175 hc_175) (cwV 2 htc (rk_gV w_4_75 w_4_77 ws_39 w_1_7 w_4_78) rfl rfl rfl (by decide +kernel) ⟨(Nat.le_of_ble_eq_true rfl), (Nat.le_of_ble_eq_true rfl)⟩) (rk_preV (va_recv hV.1 hR (ci := 9) (q0 := 0) rfl rfl) (rk_preS hP hD hS hR hn hPL hnl hV [] [(false, 0), (false, 1)] rfl (by decide) rfl (by decide))) rfl rfl hl.1 rfl (lv_room (Nat.le_of_ble_eq_true rfl)) dX10_makesSubset_175 ⟨(Nat.le_of_ble_eq_true rfl), (Nat.le_of_ble_eq_true rfl)⟩) hP hD hS hA hR0 hn [] [0] rfl rfl (by decide) (by decide) (fun H locs hP hD hS hR => ?_)
                  have hP : va_P D vwCl [(a_this_made, .inl (cI, 60, .inl (upd b114_c_this_made (b114_l7 - (1 : Int32)).toNatClampNeg b125_l8)))] H := hP
                  have hD : va_D A [(a_this_made, .inl (cI, 60, .inl (upd b114_c_this_made (b114_l7 - (1 : Int32)).toNatClampNeg b125_l8)))] := hD
                  refine lv_lsub hx hb dX10_makesSubset_178 ?_
                  refine lv_goto (tgt := 197) hx hb dX10_makesSubset_179 (by decide) ?_
                  exact B197 (b114_l5 - r_175) h _ _ hP hD hS _ (lv_sub hl [0, 2] rfl)
              · have h := rk_nif hc3 h
                refine lv_iinc (v := (b125_l8 + 1)) (lv' := [(8, .int (b125_l8 + 1)), (0, .ref a_this), (5, .long b114_l5), (7, .int b114_l7)]) hx hb dX10_makesSubset_141 hl (k := 3) rfl rfl (by decide) rfl (fun ls hl => ?_)
                refine lv_goto (tgt := 125) hx hb dX10_makesSubset_144 (by decide) ?_
                exact ih125 (b125_l8 + 1) h _ _ hP hD hS _ (lv_sub hl [1, 2, 3, 0] rfl)
          exact L125 FU (b114_l7 - (1 : Int32)) h _ _ hP hD hS _ (lv_sub hl [1, 2, 3, 0] rfl)
    exact L114 FU v_p1 (c_this_of 1) c_this_made h _ _ hP hD hS _ (lv_sub hl [4, 1, 0] rfl)
  · have h := rk_nnif hc1 h
    refine lv_iconst (v := 0) hx hb dX10_makesSubset_27 (by decide) ?_
    refine lv_istore (lv' := [(7, .int (0 : Int32)), (5, .long v_p1), (4, .int (c_this_of 1)), (3, .int (c_this_of 0)), (0, .ref a_this), (1, .long v_p1)]) hx hb dX10_makesSubset_28 hl (by decide) rfl (fun ls hl => ?_)
    refine lv_iconst (v := 0) hx hb dX10_makesSubset_30 (by decide) ?_
    refine lv_istore (lv' := [(8, .int (0 : Int32)), (7, .int (0 : Int32)), (5, .long v_p1), (4, .int (c_this_of 1)), (3, .int (c_this_of 0)), (0, .ref a_this), (1, .long v_p1)]) hx hb dX10_makesSubset_31 hl (by decide) rfl (fun ls hl => ?_)
    have L33 : ∀ (n33 : Nat) (b33_l5 : Int64) (b33_l7 : Int32) (b33_l8 : Int32) (b33_c_this_made : Nat → Int32), rk_it4 (fX10_makesSubset_L33 c_this_chosen c_this_of) n33 b33_l5 b33_l7 b33_l8 b33_c_this_made = some r0 → ∀ (H : Heap) (locs : List Loc), va_P D vwCl [(a_this_made, .inl (cI, 60, .inl b33_c_this_made))] H → va_D A [(a_this_made, .inl (cI, 60, .inl b33_c_this_made))] → va_S A s.heap H locs → ∀ (ls : Array Slot), lv_has ls 9 [(0, .ref a_this), (3, .int (c_this_of 0)), (4, .int (c_this_of 1)), (5, .long b33_l5), (7, .int b33_l7), (8, .int b33_l8)] → W p l e rmX10_makesSubset s m args below meth c H locs 0 0 Q (F0 m 33 ls []) := by
      intro n33
      induction n33 with
      | zero => intro b33_l5 b33_l7 b33_l8 b33_c_this_made h; exact rk_no h
      | succ n33 ih33 =>
        intro b33_l5 b33_l7 b33_l8 b33_c_this_made h H locs hP hD hS ls hl
        have h : fX10_makesSubset_L33 c_this_chosen c_this_of (rk_it4 (fX10_makesSubset_L33 c_this_chosen c_this_of) n33) b33_l5 b33_l7 b33_l8 b33_c_this_made = some r0 := h
        unfold fX10_makesSubset_L33 at h
        have hR := rk_keep hR0 hn hS
        refine lv_iload hx hb dX10_makesSubset_33 (lv_at hl 5 rfl) ?_
        refine lv_iload hx hb dX10_makesSubset_35 (lv_at hl 2 rfl) ?_
        have L40 : ∀ (n40 : Nat) (b40_l5 : Int64) (b40_l7 : Int32), rk_it2 (fX10_makesSubset_L40 c_this_chosen c_this_of b33_l8 b33_c_this_made (rk_it4 (fX10_makesSubset_L33 c_this_chosen c_this_of) n33)) n40 b40_l5 b40_l7 = some r0 → ∀ (H : Heap) (locs : List Loc), va_P D vwCl [(a_this_made, .inl (cI, 60, .inl b33_c_this_made))] H → va_D A [(a_this_made, .inl (cI, 60, .inl b33_c_this_made))] → va_S A s.heap H locs → ∀ (ls : Array Slot), lv_has ls 9 [(0, .ref a_this), (3, .int (c_this_of 0)), (4, .int (c_this_of 1)), (5, .long b40_l5), (7, .int b40_l7), (8, .int b33_l8)] → W p l e rmX10_makesSubset s m args below meth c H locs 0 0 Q (F0 m 40 ls []) := by
          intro n40
          induction n40 with
          | zero => intro b40_l5 b40_l7 h; exact rk_no h
          | succ n40 ih40 =>
            intro b40_l5 b40_l7 h H locs hP hD hS ls hl
            have h : fX10_makesSubset_L40 c_this_chosen c_this_of b33_l8 b33_c_this_made (rk_it4 (fX10_makesSubset_L33 c_this_chosen c_this_of) n33) (rk_it2 (fX10_makesSubset_L40 c_this_chosen c_this_of b33_l8 b33_c_this_made (rk_it4 (fX10_makesSubset_L33 c_this_chosen c_this_of) n33)) n40) b40_l5 b40_l7 = some r0 := h
            unfold fX10_makesSubset_L40 at h
            have hR := rk_keep hR0 hn hS
            refine lv_lload hx hb dX10_makesSubset_40 (lv_at hl 3 rfl) ?_
            refine lv_aload_n hx hb dX10_makesSubset_42 rfl (lv_at hl 0 rfl) ?_
            refine lv_iload_n hx hb dX10_makesSubset_43 rfl (lv_at hl 1 rfl) ?_
            refine lv_iconst (v := 1) hx hb dX10_makesSubset_44 (by decide) ?_
            refine lv_isub hx hb dX10_makesSubset_45 ?_
            refine lv_iload hx hb dX10_makesSubset_46 (lv_at hl 4 rfl) ?_
            refine lv_isub hx hb dX10_makesSubset_48 ?_
            refine lv_iload hx hb dX10_makesSubset_49 (lv_at hl 2 rfl) ?_
            refine lv_iconst (v := 1) hx hb dX10_makesSubset_51 (by decide) ?_
            refine lv_isub hx hb dX10_makesSubset_52 ?_
            refine lv_iload hx hb dX10_makesSubset_53 (lv_at hl 5 rfl) ?_
            refine lv_isub hx hb dX10_makesSubset_55 ?_
            obtain ⟨r_56, hc_56, h⟩ := rk_bd h
            refine rk_l (wr := [(a_this_made, .inl (cI, 60, .inl b33_c_this_made))]) (va_runV (C := RX10) (As := [.int (((c_this_of 0) - (1 : Int32)) - b40_l7), .int (((c_this_of 1) - (1 : Int32)) - b33_l8)]) (rest := [.long b40_l5]) hF (mtX10_choose l D cI cJ cO PL _ a_this a_this_chosen a_this_factorial a_this_catalan a_this_parted a_this_closed f_this_now a_this_of a_this_buffer a_this_made a_this_stackOne a_this_stackOther a_this_stackLong a_this_left f_this_entryMany a_this_entryFamily a_this_entryOf a_this_entryRank c_this_chosen (((c_this_of 0) - (1 : Int32)) - b40_l7) (((c_this_of 1) - (1 : Int32)) - b33_l8) r_56 hc_56) (cwV 2 htc (rk_gV w_4_75 w_4_77 ws_39 w_1_7 w_4_78) rfl rfl rfl (by decide +kernel) ⟨(Nat.le_of_ble_eq_true rfl), (Nat.le_of_ble_eq_true rfl)⟩) (rk_preV (va_recv hV.1 hR (ci := 9) (q0 := 0) rfl rfl) (rk_preS hP hD hS hR hn hPL hnl hV [] [(false, 0), (false, 1)] rfl (by decide) rfl (by decide))) rfl rfl hl.1 rfl (lv_room (Nat.le_of_ble_eq_true rfl)) dX10_makesSubset_56 ⟨(Nat.le_of_ble_eq_true rfl), (Nat.le_of_ble_eq_true rfl)⟩) hP hD hS hA hR0 hn [] [0] rfl rfl (by decide) (by decide) (fun H locs hP hD hS hR => ?_)
            have hP : va_P D vwCl [(a_this_made, .inl (cI, 60, .inl b33_c_this_made))] H := hP
            have hD : va_D A [(a_this_made, .inl (cI, 60, .inl b33_c_this_made))] := hD
            refine rk_lclt (tgt := 91) hx hb dX10_makesSubset_59 dX10_makesSubset_60 (by decide) (fun hc6 => ?_) (fun hc6 => ?_)
            · have h := rk_if hc6 h
              refine lv_aload_n hx hb dX10_makesSubset_91 rfl (lv_at hl 0 rfl) ?_
              refine va_get (D := D) (ci := 9) (v := .ref a_this_made) (C := RX10) (T := TX10) (N := 17) hx hb htc inX10 hown hV.1 hR 0 rfl rfl 8 (by decide) (htc _ w_4_6) (fun _ h9 => h9) rfl dX10_makesSubset_92 ?_
              refine lv_iload hx hb dX10_makesSubset_95 (lv_at hl 5 rfl) ?_
              refine lv_iload hx hb dX10_makesSubset_97 (lv_at hl 4 rfl) ?_
              obtain ⟨hg7, h⟩ := rk_gd h
              refine va_iast hx hb hV.1 hP hD hS 0 0 rfl rfl hg7 dX10_makesSubset_99 (fun H locs hP hD hS => ?_)
              have hP : va_P D vwCl [(a_this_made, .inl (cI, 60, .inl (upd b33_c_this_made b33_l8.toNatClampNeg b40_l7)))] H := hP
              have hD : va_D A [(a_this_made, .inl (cI, 60, .inl (upd b33_c_this_made b33_l8.toNatClampNeg b40_l7)))] := hD
              have hR := rk_keep hR0 hn hS
              refine lv_iinc (v := (b40_l7 + 1)) (lv' := [(7, .int (b40_l7 + 1)), (0, .ref a_this), (3, .int (c_this_of 0)), (4, .int (c_this_of 1)), (5, .long b40_l5), (8, .int b33_l8)]) hx hb dX10_makesSubset_100 hl (k := 4) rfl rfl (by decide) rfl (fun ls hl => ?_)
              refine lv_iinc (v := (b33_l8 + 1)) (lv' := [(8, .int (b33_l8 + 1)), (7, .int (b40_l7 + 1)), (0, .ref a_this), (3, .int (c_this_of 0)), (4, .int (c_this_of 1)), (5, .long b40_l5)]) hx hb dX10_makesSubset_103 hl (k := 5) rfl rfl (by decide) rfl (fun ls hl => ?_)
              refine lv_goto (tgt := 33) hx hb dX10_makesSubset_106 (by decide) ?_
              exact ih33 b40_l5 (b40_l7 + 1) (b33_l8 + 1) (upd b33_c_this_made b33_l8.toNatClampNeg b40_l7) h _ _ hP hD hS _ (lv_sub hl [2, 3, 4, 5, 1, 0] rfl)
            · have h := rk_nif hc6 h
              refine lv_lload hx hb dX10_makesSubset_63 (lv_at hl 3 rfl) ?_
              refine lv_aload_n hx hb dX10_makesSubset_65 rfl (lv_at hl 0 rfl) ?_
              refine lv_iload_n hx hb dX10_makesSubset_66 rfl (lv_at hl 1 rfl) ?_
              refine lv_iconst (v := 1) hx hb dX10_makesSubset_67 (by decide) ?_
              refine lv_isub hx hb dX10_makesSubset_68 ?_
              refine lv_iload hx hb dX10_makesSubset_69 (lv_at hl 4 rfl) ?_
              refine lv_isub hx hb dX10_makesSubset_71 ?_
              refine lv_iload hx hb dX10_makesSubset_72 (lv_at hl 2 rfl) ?_
              refine lv_iconst (v := 1) hx hb dX10_makesSubset_74 (by decide) ?_
              refine lv_isub hx hb dX10_makesSubset_75 ?_
              refine lv_iload hx hb dX10_makesSubset_76 (lv_at hl 5 rfl) ?_
              refine lv_isub hx hb dX10_makesSubset_78 ?_
              obtain ⟨r_79, hc_79, h⟩ := rk_bd h
              refine rk_l (wr := [(a_this_made, .inl (cI, 60, .inl b33_c_this_made))]) (va_runV (C := RX10) (As := [.int (((c_this_of 0) - (1 : Int32)) - b40_l7), .int (((c_this_of 1) - (1 : Int32)) - b33_l8)]) (rest := [.long b40_l5]) hF (mtX10_choose l D cI cJ cO PL _ a_this a_this_chosen a_this_factorial a_this_catalan a_this_parted a_this_closed f_this_now a_this_of a_this_buffer a_this_made a_this_stackOne a_this_stackOther a_this_stackLong a_this_left f_this_entryMany a_this_entryFamily a_this_entryOf a_this_entryRank c_this_chosen (((c_this_of 0) - (1 : Int32)) - b40_l7) (((c_this_of 1) - (1 : Int32)) - b33_l8) r_79 hc_79) (cwV 2 htc (rk_gV w_4_75 w_4_77 ws_39 w_1_7 w_4_78) rfl rfl rfl (by decide +kernel) ⟨(Nat.le_of_ble_eq_true rfl), (Nat.le_of_ble_eq_true rfl)⟩) (rk_preV (va_recv hV.1 hR (ci := 9) (q0 := 0) rfl rfl) (rk_preS hP hD hS hR hn hPL hnl hV [] [(false, 0), (false, 1)] rfl (by decide) rfl (by decide))) rfl rfl hl.1 rfl (lv_room (Nat.le_of_ble_eq_true rfl)) dX10_makesSubset_79 ⟨(Nat.le_of_ble_eq_true rfl), (Nat.le_of_ble_eq_true rfl)⟩) hP hD hS hA hR0 hn [] [0] rfl rfl (by decide) (by decide) (fun H locs hP hD hS hR => ?_)
              have hP : va_P D vwCl [(a_this_made, .inl (cI, 60, .inl b33_c_this_made))] H := hP
              have hD : va_D A [(a_this_made, .inl (cI, 60, .inl b33_c_this_made))] := hD
              refine lv_lsub hx hb dX10_makesSubset_82 ?_
              refine lv_lstore (lv' := [(5, .long (b40_l5 - r_79)), (0, .ref a_this), (3, .int (c_this_of 0)), (4, .int (c_this_of 1)), (7, .int b40_l7), (8, .int b33_l8)]) hx hb dX10_makesSubset_83 hl (by decide) rfl (fun ls hl => ?_)
              refine lv_iinc (v := (b40_l7 + 1)) (lv' := [(7, .int (b40_l7 + 1)), (5, .long (b40_l5 - r_79)), (0, .ref a_this), (3, .int (c_this_of 0)), (4, .int (c_this_of 1)), (8, .int b33_l8)]) hx hb dX10_makesSubset_85 hl (k := 4) rfl rfl (by decide) rfl (fun ls hl => ?_)
              refine lv_goto (tgt := 40) hx hb dX10_makesSubset_88 (by decide) ?_
              exact ih40 (b40_l5 - r_79) (b40_l7 + 1) h _ _ hP hD hS _ (lv_sub hl [2, 3, 4, 1, 0, 5] rfl)
        refine lv_icmp_ge (tgt := 109) hx hb dX10_makesSubset_37 (by decide) (fun hc8 => ?_) (fun hc8 => ?_)
        · have h := rk_if hc8 h
          exact hret b33_c_this_made _ _ _ _ h dX10_makesSubset_109 hP hD hS
        · have h := rk_nif hc8 h
          exact L40 FU b33_l5 b33_l7 h _ _ hP hD hS _ hl
    exact L33 FU v_p1 (0 : Int32) (0 : Int32) c_this_made h _ _ hP hD hS _ (lv_sub hl [5, 4, 3, 2, 1, 0] rfl)
set_option maxHeartbeats 4000000 in
set_option maxRecDepth 100000 in
theorem mtX10_insert (l : Launch) (D : va_G) (cI cJ cO : ClassId) (PL : va_W) (sz : Nat) (a_this : Nat) (a_this_chosen : Nat) (a_this_factorial : Nat) (a_this_catalan : Nat) (a_this_parted : Nat) (a_this_closed : Nat) (f_this_now : Int32) (a_this_of : Nat) (a_this_buffer : Nat) (a_this_made : Nat) (a_this_stackOne : Nat) (a_this_stackOther : Nat) (a_this_stackLong : Nat) (a_this_left : Nat) (f_this_entryMany : Int32) (a_this_entryFamily : Nat) (a_this_entryOf : Nat) (a_this_entryRank : Nat) (c_this_made : Nat → Int32) (v_p1 : Int32) (v_p2 : Int32) (v_p3 : Int32) (r0 : (Nat → Int32)) (h : fX10_insert c_this_made v_p1 v_p2 v_p3 = some r0) : Met l yX10_insert (rk_w yX10_insert cX10_insert 5 none) rmX10_insert (va_Pc [.ref a_this, .int v_p1, .int v_p2, .int v_p3] (rk_B D (rk_TY cI cJ cO) [(a_this_made, .inl (cI, 60, .inl c_this_made))] [(a_this, .inr (9, [.ref a_this_chosen, .ref a_this_factorial, .ref a_this_catalan, .ref a_this_parted, .ref a_this_closed, .int f_this_now, .ref a_this_of, .ref a_this_buffer, .ref a_this_made, .ref a_this_stackOne, .ref a_this_stackOther, .ref a_this_stackLong, .ref a_this_left, .int f_this_entryMany, .ref a_this_entryFamily, .ref a_this_entryOf, .ref a_this_entryRank]))] PL sz)) (rk_Qv D [(a_this_made, .inl (cI, 60, .inl r0))] [(a_this_made, .inl (cI, 60, .inl c_this_made))] sz) 0 0 (va_A [(a_this_made, .inl (cI, 60, .inl c_this_made))] sz) := by
  refine rk_metv h (fun x => [(a_this_made, .inl (cI, 60, .inl x))]) (by decide) (Nat.le_of_ble_eq_true rfl) ?_
  intro p e s m args below meth c A ls Q hret hname hF hP hD hA hV hR0 hn hPL hnl hl h hS
  have hx := hF.1
  have hb := hF.2.1
  have hml := hF.2.2.1
  have hown : s.vm.findClass RX10 = some m.cls := hF.2.2.2.1
  have htc := hF.2.2.2.2
  have hP : va_P D vwCl [(a_this_made, .inl (cI, 60, .inl c_this_made))] s.heap := hP
  have hD : va_D A [(a_this_made, .inl (cI, 60, .inl c_this_made))] := hD
  have hR0 : va_P D vwCl [(a_this, .inr (9, [.ref a_this_chosen, .ref a_this_factorial, .ref a_this_catalan, .ref a_this_parted, .ref a_this_closed, .int f_this_now, .ref a_this_of, .ref a_this_buffer, .ref a_this_made, .ref a_this_stackOne, .ref a_this_stackOther, .ref a_this_stackLong, .ref a_this_left, .int f_this_entryMany, .ref a_this_entryFamily, .ref a_this_entryOf, .ref a_this_entryRank]))] s.heap := hR0
  have hR := hR0
  have hl : lv_has ls 5 [(0, .ref a_this), (1, .int v_p1), (2, .int v_p2), (3, .int v_p3)] := hl
  unfold fX10_insert at h
  refine lv_iload_n hx hb dX10_insert_0 rfl (lv_at hl 1 rfl) ?_
  refine lv_istore (lv' := [(4, .int v_p1), (0, .ref a_this), (1, .int v_p1), (2, .int v_p2), (3, .int v_p3)]) hx hb dX10_insert_1 hl (by decide) rfl (fun ls hl => ?_)
  have L3 : ∀ (n3 : Nat) (b3_l4 : Int32) (b3_c_this_made : Nat → Int32), rk_it2 (fX10_insert_L3 v_p2 v_p3) n3 b3_l4 b3_c_this_made = some r0 → ∀ (H : Heap) (locs : List Loc), va_P D vwCl [(a_this_made, .inl (cI, 60, .inl b3_c_this_made))] H → va_D A [(a_this_made, .inl (cI, 60, .inl b3_c_this_made))] → va_S A s.heap H locs → ∀ (ls : Array Slot), lv_has ls 5 [(0, .ref a_this), (2, .int v_p2), (3, .int v_p3), (4, .int b3_l4)] → W p l e rmX10_insert s m args below meth c H locs 0 0 Q (F0 m 3 ls []) := by
    intro n3
    induction n3 with
    | zero => intro b3_l4 b3_c_this_made h; exact rk_no h
    | succ n3 ih3 =>
      intro b3_l4 b3_c_this_made h H locs hP hD hS ls hl
      have h : fX10_insert_L3 v_p2 v_p3 (rk_it2 (fX10_insert_L3 v_p2 v_p3) n3) b3_l4 b3_c_this_made = some r0 := h
      unfold fX10_insert_L3 at h
      have hR := rk_keep hR0 hn hS
      refine lv_iload hx hb dX10_insert_3 (lv_at hl 3 rfl) ?_
      refine lv_iload_n hx hb dX10_insert_5 rfl (lv_at hl 1 rfl) ?_
      refine lv_icmp_le (tgt := 31) hx hb dX10_insert_6 (by decide) (fun hc1 => ?_) (fun hc1 => ?_)
      · have h := rk_if hc1 h
        refine lv_aload_n hx hb dX10_insert_31 rfl (lv_at hl 0 rfl) ?_
        refine va_get (D := D) (ci := 9) (v := .ref a_this_made) (C := RX10) (T := TX10) (N := 17) hx hb htc inX10 hown hV.1 hR 0 rfl rfl 8 (by decide) (htc _ w_4_6) (fun _ h9 => h9) rfl dX10_insert_32 ?_
        refine lv_iload_n hx hb dX10_insert_35 rfl (lv_at hl 1 rfl) ?_
        refine lv_iload_n hx hb dX10_insert_36 rfl (lv_at hl 2 rfl) ?_
        obtain ⟨hg2, h⟩ := rk_gd h
        refine va_iast hx hb hV.1 hP hD hS 0 0 rfl rfl hg2 dX10_insert_37 (fun H locs hP hD hS => ?_)
        have hP : va_P D vwCl [(a_this_made, .inl (cI, 60, .inl (upd b3_c_this_made v_p2.toNatClampNeg v_p3)))] H := hP
        have hD : va_D A [(a_this_made, .inl (cI, 60, .inl (upd b3_c_this_made v_p2.toNatClampNeg v_p3)))] := hD
        have hR := rk_keep hR0 hn hS
        exact hret (upd b3_c_this_made v_p2.toNatClampNeg v_p3) _ _ _ _ h dX10_insert_38 hP hD hS
      · have h := rk_nif hc1 h
        refine lv_aload_n hx hb dX10_insert_9 rfl (lv_at hl 0 rfl) ?_
        refine va_get (D := D) (ci := 9) (v := .ref a_this_made) (C := RX10) (T := TX10) (N := 17) hx hb htc inX10 hown hV.1 hR 0 rfl rfl 8 (by decide) (htc _ w_4_6) (fun _ h9 => h9) rfl dX10_insert_10 ?_
        refine lv_iload hx hb dX10_insert_13 (lv_at hl 3 rfl) ?_
        refine lv_aload_n hx hb dX10_insert_15 rfl (lv_at hl 0 rfl) ?_
        refine va_get (D := D) (ci := 9) (v := .ref a_this_made) (C := RX10) (T := TX10) (N := 17) hx hb htc inX10 hown hV.1 hR 0 rfl rfl 8 (by decide) (htc _ w_4_6) (fun _ h9 => h9) rfl dX10_insert_16 ?_
        refine lv_iload hx hb dX10_insert_19 (lv_at hl 3 rfl) ?_
        refine lv_iconst (v := 1) hx hb dX10_insert_21 (by decide) ?_
        refine lv_isub hx hb dX10_insert_22 ?_
        obtain ⟨hg3, h⟩ := rk_gd h
        refine va_iald hx hb hV.1 hP 0 0 rfl rfl hg3 dX10_insert_23 ?_
        obtain ⟨hg4, h⟩ := rk_gd h
        refine va_iast hx hb hV.1 hP hD hS 0 0 rfl rfl hg4 dX10_insert_24 (fun H locs hP hD hS => ?_)
        have hP : va_P D vwCl [(a_this_made, .inl (cI, 60, .inl (upd b3_c_this_made b3_l4.toNatClampNeg (b3_c_this_made (b3_l4 - (1 : Int32)).toNatClampNeg))))] H := hP
        have hD : va_D A [(a_this_made, .inl (cI, 60, .inl (upd b3_c_this_made b3_l4.toNatClampNeg (b3_c_this_made (b3_l4 - (1 : Int32)).toNatClampNeg))))] := hD
        have hR := rk_keep hR0 hn hS
        refine lv_iinc (v := (b3_l4 + (-1))) (lv' := [(4, .int (b3_l4 + (-1))), (0, .ref a_this), (2, .int v_p2), (3, .int v_p3)]) hx hb dX10_insert_25 hl (k := 3) rfl rfl (by decide) rfl (fun ls hl => ?_)
        refine lv_goto (tgt := 3) hx hb dX10_insert_28 (by decide) ?_
        exact ih3 (b3_l4 + (-1)) (upd b3_c_this_made b3_l4.toNatClampNeg (b3_c_this_made (b3_l4 - (1 : Int32)).toNatClampNeg)) h _ _ hP hD hS _ (lv_sub hl [1, 2, 3, 0] rfl)
  exact L3 FU v_p1 c_this_made h _ _ hP hD hS _ (lv_sub hl [1, 3, 4, 0] rfl)
set_option maxHeartbeats 4000000 in
set_option maxRecDepth 100000 in
theorem mtX10_makesPermutation (l : Launch) (D : va_G) (cI cJ cO : ClassId) (PL : va_W) (sz : Nat) (a_this : Nat) (a_this_chosen : Nat) (a_this_factorial : Nat) (a_this_catalan : Nat) (a_this_parted : Nat) (a_this_closed : Nat) (f_this_now : Int32) (a_this_of : Nat) (a_this_buffer : Nat) (a_this_made : Nat) (a_this_stackOne : Nat) (a_this_stackOther : Nat) (a_this_stackLong : Nat) (a_this_left : Nat) (f_this_entryMany : Int32) (a_this_entryFamily : Nat) (a_this_entryOf : Nat) (a_this_entryRank : Nat) (c_this_made : Nat → Int32) (c_this_stackLong : Nat → Int64) (c_this_of : Nat → Int32) (v_p1 : Int64) (r0 : (Nat → Int32) × (Nat → Int64)) (h : fX10_makesPermutation c_this_made c_this_stackLong c_this_of v_p1 = some r0) : Met l yX10_makesPermutation (rk_w yX10_makesPermutation cX10_makesPermutation 9 none) rmX10_makesPermutation (va_Pc [.ref a_this, .long v_p1] (rk_B D (rk_TY cI cJ cO) [(a_this_made, .inl (cI, 60, .inl c_this_made)), (a_this_stackLong, .inl (cJ, 64, .inr (.inl c_this_stackLong)))] [(a_this, .inr (9, [.ref a_this_chosen, .ref a_this_factorial, .ref a_this_catalan, .ref a_this_parted, .ref a_this_closed, .int f_this_now, .ref a_this_of, .ref a_this_buffer, .ref a_this_made, .ref a_this_stackOne, .ref a_this_stackOther, .ref a_this_stackLong, .ref a_this_left, .int f_this_entryMany, .ref a_this_entryFamily, .ref a_this_entryOf, .ref a_this_entryRank])), (a_this_of, .inl (cI, 4, .inl c_this_of))] PL sz)) (rk_Qv D [(a_this_made, .inl (cI, 60, .inl r0.1)), (a_this_stackLong, .inl (cJ, 64, .inr (.inl r0.2)))] [(a_this_made, .inl (cI, 60, .inl c_this_made)), (a_this_stackLong, .inl (cJ, 64, .inr (.inl c_this_stackLong)))] sz) 0 0 (va_A [(a_this_made, .inl (cI, 60, .inl c_this_made)), (a_this_stackLong, .inl (cJ, 64, .inr (.inl c_this_stackLong)))] sz) := by
  refine rk_metv h (fun x => [(a_this_made, .inl (cI, 60, .inl x.1)), (a_this_stackLong, .inl (cJ, 64, .inr (.inl x.2)))]) (by decide) (Nat.le_of_ble_eq_true rfl) ?_
  intro p e s m args below meth c A ls Q hret hname hF hP hD hA hV hR0 hn hPL hnl hl h hS
  have hx := hF.1
  have hb := hF.2.1
  have hml := hF.2.2.1
  have hown : s.vm.findClass RX10 = some m.cls := hF.2.2.2.1
  have htc := hF.2.2.2.2
  have hP : va_P D vwCl [(a_this_made, .inl (cI, 60, .inl c_this_made)), (a_this_stackLong, .inl (cJ, 64, .inr (.inl c_this_stackLong)))] s.heap := hP
  have hD : va_D A [(a_this_made, .inl (cI, 60, .inl c_this_made)), (a_this_stackLong, .inl (cJ, 64, .inr (.inl c_this_stackLong)))] := hD
  have hR0 : va_P D vwCl [(a_this, .inr (9, [.ref a_this_chosen, .ref a_this_factorial, .ref a_this_catalan, .ref a_this_parted, .ref a_this_closed, .int f_this_now, .ref a_this_of, .ref a_this_buffer, .ref a_this_made, .ref a_this_stackOne, .ref a_this_stackOther, .ref a_this_stackLong, .ref a_this_left, .int f_this_entryMany, .ref a_this_entryFamily, .ref a_this_entryOf, .ref a_this_entryRank])), (a_this_of, .inl (cI, 4, .inl c_this_of))] s.heap := hR0
  have hR := hR0
  have hl : lv_has ls 9 [(0, .ref a_this), (1, .long v_p1)] := hl
  unfold fX10_makesPermutation at h
  refine lv_aload_n hx hb dX10_makesPermutation_0 rfl (lv_at hl 0 rfl) ?_
  refine va_get (D := D) (ci := 9) (v := .ref a_this_of) (C := RX10) (T := TX10) (N := 17) hx hb htc inX10 hown hV.1 hR 0 rfl rfl 6 (by decide) (htc _ w_4_4) (fun _ h9 => h9) rfl dX10_makesPermutation_1 ?_
  refine lv_iconst (v := 0) hx hb dX10_makesPermutation_4 (by decide) ?_
  refine va_iald hx hb hV.1 hR 1 0 rfl rfl (show vp_in (0 : Int32) 4 from (by decide : ¬ ((0 : Int32) < 0 ∨ 4 ≤ (0 : Int32).toNatClampNeg))) dX10_makesPermutation_5 ?_
  refine W.eq (g2 := F0 m 6 ls [.int (c_this_of 0)]) rfl ?_
  refine lv_istore_n (lv' := [(3, .int (c_this_of 0)), (0, .ref a_this), (1, .long v_p1)]) hx hb dX10_makesPermutation_6 rfl hl (by decide) rfl (fun ls hl => ?_)
  refine lv_lload_n hx hb dX10_makesPermutation_7 rfl (lv_at hl 2 rfl) ?_
  refine lv_lstore (lv' := [(4, .long v_p1), (3, .int (c_this_of 0)), (0, .ref a_this), (1, .long v_p1)]) hx hb dX10_makesPermutation_8 hl (by decide) rfl (fun ls hl => ?_)
  refine lv_aload_n hx hb dX10_makesPermutation_10 rfl (lv_at hl 2 rfl) ?_
  refine va_get (D := D) (ci := 9) (v := .ref a_this_of) (C := RX10) (T := TX10) (N := 17) hx hb htc inX10 hown hV.1 hR 0 rfl rfl 6 (by decide) (htc _ w_4_4) (fun _ h9 => h9) rfl dX10_makesPermutation_11 ?_
  refine lv_iconst (v := 1) hx hb dX10_makesPermutation_14 (by decide) ?_
  refine va_iald hx hb hV.1 hR 1 0 rfl rfl (show vp_in (1 : Int32) 4 from (by decide : ¬ ((1 : Int32) < 0 ∨ 4 ≤ (1 : Int32).toNatClampNeg))) dX10_makesPermutation_15 ?_
  refine W.eq (g2 := F0 m 16 ls [.int (c_this_of 1)]) rfl ?_
  refine lv_if_ne (tgt := 111) hx hb dX10_makesPermutation_16 (by decide) (fun hc1 => ?_) (fun hc1 => ?_)
  · have h := rk_if hc1 h
    refine lv_iload_n hx hb dX10_makesPermutation_111 rfl (lv_at hl 1 rfl) ?_
    refine lv_iconst (v := 1) hx hb dX10_makesPermutation_112 (by decide) ?_
    refine lv_isub hx hb dX10_makesPermutation_113 ?_
    refine lv_istore (lv' := [(6, .int ((c_this_of 0) - (1 : Int32))), (4, .long v_p1), (3, .int (c_this_of 0)), (0, .ref a_this), (1, .long v_p1)]) hx hb dX10_makesPermutation_114 hl (by decide) rfl (fun ls hl => ?_)
    have L116 : ∀ (n116 : Nat) (b116_l4 : Int64) (b116_l6 : Int32) (b116_c_this_stackLong : Nat → Int64), rk_it3 (fX10_makesPermutation_L116 c_this_made c_this_of) n116 b116_l4 b116_l6 b116_c_this_stackLong = some r0 → ∀ (H : Heap) (locs : List Loc), va_P D vwCl [(a_this_made, .inl (cI, 60, .inl c_this_made)), (a_this_stackLong, .inl (cJ, 64, .inr (.inl b116_c_this_stackLong)))] H → va_D A [(a_this_made, .inl (cI, 60, .inl c_this_made)), (a_this_stackLong, .inl (cJ, 64, .inr (.inl b116_c_this_stackLong)))] → va_S A s.heap H locs → ∀ (ls : Array Slot), lv_has ls 9 [(0, .ref a_this), (3, .int (c_this_of 0)), (4, .long b116_l4), (6, .int b116_l6)] → W p l e rmX10_makesPermutation s m args below meth c H locs 0 0 Q (F0 m 116 ls []) := by
      intro n116
      induction n116 with
      | zero => intro b116_l4 b116_l6 b116_c_this_stackLong h; exact rk_no h
      | succ n116 ih116 =>
        intro b116_l4 b116_l6 b116_c_this_stackLong h H locs hP hD hS ls hl
        have h : fX10_makesPermutation_L116 c_this_made c_this_of (rk_it3 (fX10_makesPermutation_L116 c_this_made c_this_of) n116) b116_l4 b116_l6 b116_c_this_stackLong = some r0 := h
        unfold fX10_makesPermutation_L116 at h
        have hR := rk_keep hR0 hn hS
        refine lv_iload hx hb dX10_makesPermutation_116 (lv_at hl 3 rfl) ?_
        refine lv_if_le (tgt := 146) hx hb dX10_makesPermutation_118 (by decide) (fun hc2 => ?_) (fun hc2 => ?_)
        · have h := rk_if hc2 h
          refine lv_aload_n hx hb dX10_makesPermutation_146 rfl (lv_at hl 0 rfl) ?_
          refine va_get (D := D) (ci := 9) (v := .ref a_this_made) (C := RX10) (T := TX10) (N := 17) hx hb htc inX10 hown hV.1 hR 0 rfl rfl 8 (by decide) (htc _ w_4_6) (fun _ h9 => h9) rfl dX10_makesPermutation_147 ?_
          refine lv_iconst (v := 0) hx hb dX10_makesPermutation_150 (by decide) ?_
          refine lv_iconst (v := 0) hx hb dX10_makesPermutation_151 (by decide) ?_
          refine va_iast hx hb hV.1 hP hD hS 0 0 rfl rfl (show vp_in (0 : Int32) 60 from (by decide : ¬ ((0 : Int32) < 0 ∨ 60 ≤ (0 : Int32).toNatClampNeg))) dX10_makesPermutation_152 (fun H locs hP hD hS => ?_)
          have hP : va_P D vwCl [(a_this_made, .inl (cI, 60, .inl (upd c_this_made 0 (0 : Int32)))), (a_this_stackLong, .inl (cJ, 64, .inr (.inl b116_c_this_stackLong)))] H := hP
          have hD : va_D A [(a_this_made, .inl (cI, 60, .inl (upd c_this_made 0 (0 : Int32)))), (a_this_stackLong, .inl (cJ, 64, .inr (.inl b116_c_this_stackLong)))] := hD
          have hR := rk_keep hR0 hn hS
          refine lv_iconst (v := 1) hx hb dX10_makesPermutation_153 (by decide) ?_
          refine lv_istore (lv' := [(6, .int (1 : Int32)), (0, .ref a_this), (3, .int (c_this_of 0)), (4, .long b116_l4)]) hx hb dX10_makesPermutation_154 hl (by decide) rfl (fun ls hl => ?_)
          have L156 : ∀ (n156 : Nat) (b156_l6 : Int32) (b156_c_this_made : Nat → Int32), rk_it2 (fX10_makesPermutation_L156 c_this_of b116_c_this_stackLong) n156 b156_l6 b156_c_this_made = some r0 → ∀ (H : Heap) (locs : List Loc), va_P D vwCl [(a_this_made, .inl (cI, 60, .inl b156_c_this_made)), (a_this_stackLong, .inl (cJ, 64, .inr (.inl b116_c_this_stackLong)))] H → va_D A [(a_this_made, .inl (cI, 60, .inl b156_c_this_made)), (a_this_stackLong, .inl (cJ, 64, .inr (.inl b116_c_this_stackLong)))] → va_S A s.heap H locs → ∀ (ls : Array Slot), lv_has ls 9 [(0, .ref a_this), (3, .int (c_this_of 0)), (6, .int b156_l6)] → W p l e rmX10_makesPermutation s m args below meth c H locs 0 0 Q (F0 m 156 ls []) := by
            intro n156
            induction n156 with
            | zero => intro b156_l6 b156_c_this_made h; exact rk_no h
            | succ n156 ih156 =>
              intro b156_l6 b156_c_this_made h H locs hP hD hS ls hl
              have h : fX10_makesPermutation_L156 c_this_of b116_c_this_stackLong (rk_it2 (fX10_makesPermutation_L156 c_this_of b116_c_this_stackLong) n156) b156_l6 b156_c_this_made = some r0 := h
              unfold fX10_makesPermutation_L156 at h
              have hR := rk_keep hR0 hn hS
              refine lv_iload hx hb dX10_makesPermutation_156 (lv_at hl 2 rfl) ?_
              refine lv_iload_n hx hb dX10_makesPermutation_158 rfl (lv_at hl 1 rfl) ?_
              refine lv_icmp_ge (tgt := 224) hx hb dX10_makesPermutation_159 (by decide) (fun hc3 => ?_) (fun hc3 => ?_)
              · have h := rk_if hc3 h
                exact hret (b156_c_this_made, b116_c_this_stackLong) _ _ _ _ h dX10_makesPermutation_224 hP hD hS
              · have h := rk_nif hc3 h
                refine lv_aload_n hx hb dX10_makesPermutation_162 rfl (lv_at hl 0 rfl) ?_
                refine va_get (D := D) (ci := 9) (v := .ref a_this_stackLong) (C := RX10) (T := TX10) (N := 17) hx hb htc inX10 hown hV.1 hR 0 rfl rfl 11 (by decide) (htc _ w_4_9) (fun _ h9 => h9) rfl dX10_makesPermutation_163 ?_
                refine lv_iload hx hb dX10_makesPermutation_166 (lv_at hl 2 rfl) ?_
                obtain ⟨hg4, h⟩ := rk_gd h
                refine va_lald hx hb hV.1 hP 1 1 rfl rfl hg4 dX10_makesPermutation_168 ?_
                refine lv_iload hx hb dX10_makesPermutation_169 (lv_at hl 2 rfl) ?_
                refine lv_iconst (v := 1) hx hb dX10_makesPermutation_171 (by decide) ?_
                refine lv_iadd hx hb dX10_makesPermutation_172 ?_
                refine lv_i2l hx hb dX10_makesPermutation_173 rfl ?_
                obtain ⟨hz5, h⟩ := rk_gd h
                refine lv_lrem hx hb dX10_makesPermutation_174 hz5 ?_
                refine lv_l2i hx hb dX10_makesPermutation_175 rfl ?_
                refine lv_istore (lv' := [(7, .int ((b116_c_this_stackLong b156_l6.toNatClampNeg) - (b116_c_this_stackLong b156_l6.toNatClampNeg) / (b156_l6 + (1 : Int32)).toInt64 * (b156_l6 + (1 : Int32)).toInt64).toInt32), (0, .ref a_this), (3, .int (c_this_of 0)), (6, .int b156_l6)]) hx hb dX10_makesPermutation_176 hl (by decide) rfl (fun ls hl => ?_)
                refine lv_aload_n hx hb dX10_makesPermutation_178 rfl (lv_at hl 1 rfl) ?_
                refine lv_iload hx hb dX10_makesPermutation_179 (lv_at hl 3 rfl) ?_
                refine lv_aload_n hx hb dX10_makesPermutation_181 rfl (lv_at hl 1 rfl) ?_
                refine va_get (D := D) (ci := 9) (v := .ref a_this_stackLong) (C := RX10) (T := TX10) (N := 17) hx hb htc inX10 hown hV.1 hR 0 rfl rfl 11 (by decide) (htc _ w_4_9) (fun _ h9 => h9) rfl dX10_makesPermutation_182 ?_
                refine lv_iload hx hb dX10_makesPermutation_185 (lv_at hl 3 rfl) ?_
                refine va_lald hx hb hV.1 hP 1 1 rfl rfl hg4 dX10_makesPermutation_187 ?_
                refine lv_iload hx hb dX10_makesPermutation_188 (lv_at hl 3 rfl) ?_
                refine lv_iconst (v := 1) hx hb dX10_makesPermutation_190 (by decide) ?_
                refine lv_iadd hx hb dX10_makesPermutation_191 ?_
                refine lv_i2l hx hb dX10_makesPermutation_192 rfl ?_
                refine lv_ldiv hx hb dX10_makesPermutation_193 hz5 ?_
                refine lv_ldc2 (v := (2 : Int64)) hx hb hown (htc _ w_4_58) dX10_makesPermutation_194 ?_
                refine lv_lrem hx hb dX10_makesPermutation_197 (by decide) ?_
                refine lv_lconst (v := 0) hx hb dX10_makesPermutation_198 (by decide) ?_
                have B213 : ∀ (b213_t2 : Int32), fX10_makesPermutation_B213 b156_l6 b156_c_this_made (rk_it2 (fX10_makesPermutation_L156 c_this_of b116_c_this_stackLong) n156) b213_t2 = some r0 → ∀ (H : Heap) (locs : List Loc), va_P D vwCl [(a_this_made, .inl (cI, 60, .inl b156_c_this_made)), (a_this_stackLong, .inl (cJ, 64, .inr (.inl b116_c_this_stackLong)))] H → va_D A [(a_this_made, .inl (cI, 60, .inl b156_c_this_made)), (a_this_stackLong, .inl (cJ, 64, .inr (.inl b116_c_this_stackLong)))] → va_S A s.heap H locs → ∀ (ls : Array Slot), lv_has ls 9 [(0, .ref a_this), (3, .int (c_this_of 0)), (6, .int b156_l6)] → W p l e rmX10_makesPermutation s m args below meth c H locs 0 0 Q (F0 m 213 ls [.int b213_t2, .int b156_l6, .ref a_this]) := by
                  intro b213_t2 h H locs hP hD hS ls hl
                  unfold fX10_makesPermutation_B213 at h
                  have hR := rk_keep hR0 hn hS
                  refine lv_iload hx hb dX10_makesPermutation_213 (lv_at hl 2 rfl) ?_
                  obtain ⟨r_215, hc_215, h⟩ := rk_bd h
                  refine rk_v (wr := [(a_this_stackLong, .inl (cJ, 64, .inr (.inl b116_c_this_stackLong)))]) (va_runV (C := RX10) (As := [.int b156_l6, .int b213_t2, .int b156_l6]) (rest := []) hF (mtX10_insert l D cI cJ cO PL _ a_this a_this_chosen a_this_factorial a_this_catalan a_this_parted a_this_closed f_this_now a_this_of a_this_buffer a_this_made a_this_stackOne a_this_stackOther a_this_stackLong a_this_left f_this_entryMany a_this_entryFamily a_this_entryOf a_this_entryRank b156_c_this_made b156_l6 b213_t2 b156_l6 r_215 hc_215) (cwV 3 htc (rk_gV w_4_83 w_4_85 ws_41 w_1_7 w_4_86) rfl rfl rfl (by decide +kernel) ⟨(Nat.le_of_ble_eq_true rfl), (Nat.le_of_ble_eq_true rfl)⟩) (rk_preV (va_recv hV.1 hR (ci := 9) (q0 := 0) rfl rfl) (rk_preS hP hD hS hR hn hPL hnl hV [0] [(false, 0)] rfl (by decide) rfl (by decide))) rfl rfl hl.1 rfl (lv_room (Nat.le_of_ble_eq_true rfl)) dX10_makesPermutation_215 ⟨(Nat.le_of_ble_eq_true rfl), (Nat.le_of_ble_eq_true rfl)⟩) hP hD hS hA hR0 hn [0] [1] rfl rfl (by decide) (by decide) (fun H locs hP hD hS hR => ?_)
                  have hP : va_P D vwCl [(a_this_stackLong, .inl (cJ, 64, .inr (.inl b116_c_this_stackLong))), (a_this_made, .inl (cI, 60, .inl r_215))] H := hP
                  have hD : va_D A [(a_this_stackLong, .inl (cJ, 64, .inr (.inl b116_c_this_stackLong))), (a_this_made, .inl (cI, 60, .inl r_215))] := hD
                  refine lv_iinc (v := (b156_l6 + 1)) (lv' := [(6, .int (b156_l6 + 1)), (0, .ref a_this), (3, .int (c_this_of 0))]) hx hb dX10_makesPermutation_218 hl (k := 2) rfl rfl (by decide) rfl (fun ls hl => ?_)
                  refine lv_goto (tgt := 156) hx hb dX10_makesPermutation_221 (by decide) ?_
                  exact ih156 (b156_l6 + 1) r_215 h _ _ (hP.sub [1, 0] rfl) (hD.sub [1, 0] (by decide) rfl) hS _ (lv_sub hl [1, 2, 0] rfl)
                refine rk_lcne (tgt := 211) hx hb dX10_makesPermutation_199 dX10_makesPermutation_200 (by decide) (fun hc6 => ?_) (fun hc6 => ?_)
                · have h := rk_if hc6 h
                  refine lv_iload hx hb dX10_makesPermutation_211 (lv_at hl 0 rfl) ?_
                  exact B213 ((b116_c_this_stackLong b156_l6.toNatClampNeg) - (b116_c_this_stackLong b156_l6.toNatClampNeg) / (b156_l6 + (1 : Int32)).toInt64 * (b156_l6 + (1 : Int32)).toInt64).toInt32 h _ _ hP hD hS _ (lv_sub hl [1, 2, 3] rfl)
                · have h := rk_nnif hc6 h
                  refine lv_iload hx hb dX10_makesPermutation_203 (lv_at hl 3 rfl) ?_
                  refine lv_iload hx hb dX10_makesPermutation_205 (lv_at hl 0 rfl) ?_
                  refine lv_isub hx hb dX10_makesPermutation_207 ?_
                  refine lv_goto (tgt := 213) hx hb dX10_makesPermutation_208 (by decide) ?_
                  exact B213 (b156_l6 - ((b116_c_this_stackLong b156_l6.toNatClampNeg) - (b116_c_this_stackLong b156_l6.toNatClampNeg) / (b156_l6 + (1 : Int32)).toInt64 * (b156_l6 + (1 : Int32)).toInt64).toInt32) h _ _ hP hD hS _ (lv_sub hl [1, 2, 3] rfl)
          exact L156 FU (1 : Int32) (upd c_this_made 0 (0 : Int32)) h _ _ hP hD hS _ (lv_sub hl [1, 2, 0] rfl)
        · have h := rk_nif hc2 h
          refine lv_aload_n hx hb dX10_makesPermutation_121 rfl (lv_at hl 0 rfl) ?_
          refine va_get (D := D) (ci := 9) (v := .ref a_this_stackLong) (C := RX10) (T := TX10) (N := 17) hx hb htc inX10 hown hV.1 hR 0 rfl rfl 11 (by decide) (htc _ w_4_9) (fun _ h9 => h9) rfl dX10_makesPermutation_122 ?_
          refine lv_iload hx hb dX10_makesPermutation_125 (lv_at hl 3 rfl) ?_
          refine lv_lload hx hb dX10_makesPermutation_127 (lv_at hl 2 rfl) ?_
          obtain ⟨hg7, h⟩ := rk_gd h
          refine va_last hx hb hV.1 hP hD hS 1 1 rfl rfl hg7 dX10_makesPermutation_129 (fun H locs hP hD hS => ?_)
          have hP : va_P D vwCl [(a_this_made, .inl (cI, 60, .inl c_this_made)), (a_this_stackLong, .inl (cJ, 64, .inr (.inl (vp_updL b116_c_this_stackLong b116_l6.toNatClampNeg b116_l4))))] H := hP
          have hD : va_D A [(a_this_made, .inl (cI, 60, .inl c_this_made)), (a_this_stackLong, .inl (cJ, 64, .inr (.inl (vp_updL b116_c_this_stackLong b116_l6.toNatClampNeg b116_l4))))] := hD
          have hR := rk_keep hR0 hn hS
          refine lv_lload hx hb dX10_makesPermutation_130 (lv_at hl 2 rfl) ?_
          refine lv_iload hx hb dX10_makesPermutation_132 (lv_at hl 3 rfl) ?_
          refine lv_iconst (v := 1) hx hb dX10_makesPermutation_134 (by decide) ?_
          refine lv_iadd hx hb dX10_makesPermutation_135 ?_
          refine lv_i2l hx hb dX10_makesPermutation_136 rfl ?_
          obtain ⟨hz8, h⟩ := rk_gd h
          refine lv_ldiv hx hb dX10_makesPermutation_137 hz8 ?_
          refine lv_lstore (lv' := [(4, .long (b116_l4 / (b116_l6 + (1 : Int32)).toInt64)), (0, .ref a_this), (3, .int (c_this_of 0)), (6, .int b116_l6)]) hx hb dX10_makesPermutation_138 hl (by decide) rfl (fun ls hl => ?_)
          refine lv_iinc (v := (b116_l6 + (-1))) (lv' := [(6, .int (b116_l6 + (-1))), (4, .long (b116_l4 / (b116_l6 + (1 : Int32)).toInt64)), (0, .ref a_this), (3, .int (c_this_of 0))]) hx hb dX10_makesPermutation_140 hl (k := 3) rfl rfl (by decide) rfl (fun ls hl => ?_)
          refine lv_goto (tgt := 116) hx hb dX10_makesPermutation_143 (by decide) ?_
          exact ih116 (b116_l4 / (b116_l6 + (1 : Int32)).toInt64) (b116_l6 + (-1)) (vp_updL b116_c_this_stackLong b116_l6.toNatClampNeg b116_l4) h _ _ hP hD hS _ (lv_sub hl [2, 3, 1, 0] rfl)
    exact L116 FU v_p1 ((c_this_of 0) - (1 : Int32)) c_this_stackLong h _ _ hP hD hS _ (lv_sub hl [3, 2, 1, 0] rfl)
  · have h := rk_nnif hc1 h
    refine lv_iload_n hx hb dX10_makesPermutation_19 rfl (lv_at hl 1 rfl) ?_
    refine lv_iconst (v := 1) hx hb dX10_makesPermutation_20 (by decide) ?_
    refine lv_isub hx hb dX10_makesPermutation_21 ?_
    refine lv_istore (lv' := [(6, .int ((c_this_of 0) - (1 : Int32))), (4, .long v_p1), (3, .int (c_this_of 0)), (0, .ref a_this), (1, .long v_p1)]) hx hb dX10_makesPermutation_22 hl (by decide) rfl (fun ls hl => ?_)
    have L24 : ∀ (n24 : Nat) (b24_l4 : Int64) (b24_l6 : Int32) (b24_c_this_made : Nat → Int32), rk_it3 (fX10_makesPermutation_L24 c_this_stackLong c_this_of) n24 b24_l4 b24_l6 b24_c_this_made = some r0 → ∀ (H : Heap) (locs : List Loc), va_P D vwCl [(a_this_made, .inl (cI, 60, .inl b24_c_this_made)), (a_this_stackLong, .inl (cJ, 64, .inr (.inl c_this_stackLong)))] H → va_D A [(a_this_made, .inl (cI, 60, .inl b24_c_this_made)), (a_this_stackLong, .inl (cJ, 64, .inr (.inl c_this_stackLong)))] → va_S A s.heap H locs → ∀ (ls : Array Slot), lv_has ls 9 [(0, .ref a_this), (3, .int (c_this_of 0)), (4, .long b24_l4), (6, .int b24_l6)] → W p l e rmX10_makesPermutation s m args below meth c H locs 0 0 Q (F0 m 24 ls []) := by
      intro n24
      induction n24 with
      | zero => intro b24_l4 b24_l6 b24_c_this_made h; exact rk_no h
      | succ n24 ih24 =>
        intro b24_l4 b24_l6 b24_c_this_made h H locs hP hD hS ls hl
        have h : fX10_makesPermutation_L24 c_this_stackLong c_this_of (rk_it3 (fX10_makesPermutation_L24 c_this_stackLong c_this_of) n24) b24_l4 b24_l6 b24_c_this_made = some r0 := h
        unfold fX10_makesPermutation_L24 at h
        have hR := rk_keep hR0 hn hS
        refine lv_iload hx hb dX10_makesPermutation_24 (lv_at hl 3 rfl) ?_
        refine lv_if_lt (tgt := 110) hx hb dX10_makesPermutation_26 (by decide) (fun hc9 => ?_) (fun hc9 => ?_)
        · have h := rk_if hc9 h
          exact hret (b24_c_this_made, c_this_stackLong) _ _ _ _ h dX10_makesPermutation_110 hP hD hS
        · have h := rk_nif hc9 h
          refine lv_lload hx hb dX10_makesPermutation_29 (lv_at hl 2 rfl) ?_
          refine lv_iload_n hx hb dX10_makesPermutation_31 rfl (lv_at hl 1 rfl) ?_
          refine lv_iload hx hb dX10_makesPermutation_32 (lv_at hl 3 rfl) ?_
          refine lv_isub hx hb dX10_makesPermutation_34 ?_
          refine lv_i2l hx hb dX10_makesPermutation_35 rfl ?_
          obtain ⟨hz10, h⟩ := rk_gd h
          refine lv_lrem hx hb dX10_makesPermutation_36 hz10 ?_
          refine lv_l2i hx hb dX10_makesPermutation_37 rfl ?_
          refine lv_istore (lv' := [(7, .int (b24_l4 - b24_l4 / ((c_this_of 0) - b24_l6).toInt64 * ((c_this_of 0) - b24_l6).toInt64).toInt32), (0, .ref a_this), (3, .int (c_this_of 0)), (4, .long b24_l4), (6, .int b24_l6)]) hx hb dX10_makesPermutation_38 hl (by decide) rfl (fun ls hl => ?_)
          refine lv_lload hx hb dX10_makesPermutation_40 (lv_at hl 3 rfl) ?_
          refine lv_iload_n hx hb dX10_makesPermutation_42 rfl (lv_at hl 2 rfl) ?_
          refine lv_iload hx hb dX10_makesPermutation_43 (lv_at hl 4 rfl) ?_
          refine lv_isub hx hb dX10_makesPermutation_45 ?_
          refine lv_i2l hx hb dX10_makesPermutation_46 rfl ?_
          refine lv_ldiv hx hb dX10_makesPermutation_47 hz10 ?_
          refine lv_lstore (lv' := [(4, .long (b24_l4 / ((c_this_of 0) - b24_l6).toInt64)), (7, .int (b24_l4 - b24_l4 / ((c_this_of 0) - b24_l6).toInt64 * ((c_this_of 0) - b24_l6).toInt64).toInt32), (0, .ref a_this), (3, .int (c_this_of 0)), (6, .int b24_l6)]) hx hb dX10_makesPermutation_48 hl (by decide) rfl (fun ls hl => ?_)
          refine lv_aload_n hx hb dX10_makesPermutation_50 rfl (lv_at hl 2 rfl) ?_
          refine va_get (D := D) (ci := 9) (v := .ref a_this_made) (C := RX10) (T := TX10) (N := 17) hx hb htc inX10 hown hV.1 hR 0 rfl rfl 8 (by decide) (htc _ w_4_6) (fun _ h9 => h9) rfl dX10_makesPermutation_51 ?_
          refine lv_iload hx hb dX10_makesPermutation_54 (lv_at hl 4 rfl) ?_
          refine lv_iload hx hb dX10_makesPermutation_56 (lv_at hl 1 rfl) ?_
          obtain ⟨hg11, h⟩ := rk_gd h
          refine va_iast hx hb hV.1 hP hD hS 0 0 rfl rfl hg11 dX10_makesPermutation_58 (fun H locs hP hD hS => ?_)
          have hP : va_P D vwCl [(a_this_made, .inl (cI, 60, .inl (upd b24_c_this_made b24_l6.toNatClampNeg (b24_l4 - b24_l4 / ((c_this_of 0) - b24_l6).toInt64 * ((c_this_of 0) - b24_l6).toInt64).toInt32))), (a_this_stackLong, .inl (cJ, 64, .inr (.inl c_this_stackLong)))] H := hP
          have hD : va_D A [(a_this_made, .inl (cI, 60, .inl (upd b24_c_this_made b24_l6.toNatClampNeg (b24_l4 - b24_l4 / ((c_this_of 0) - b24_l6).toInt64 * ((c_this_of 0) - b24_l6).toInt64).toInt32))), (a_this_stackLong, .inl (cJ, 64, .inr (.inl c_this_stackLong)))] := hD
          have hR := rk_keep hR0 hn hS
          refine lv_iload hx hb dX10_makesPermutation_59 (lv_at hl 4 rfl) ?_
          refine lv_iconst (v := 1) hx hb dX10_makesPermutation_61 (by decide) ?_
          refine lv_iadd hx hb dX10_makesPermutation_62 ?_
          refine lv_istore (lv' := [(8, .int (b24_l6 + (1 : Int32))), (4, .long (b24_l4 / ((c_this_of 0) - b24_l6).toInt64)), (7, .int (b24_l4 - b24_l4 / ((c_this_of 0) - b24_l6).toInt64 * ((c_this_of 0) - b24_l6).toInt64).toInt32), (0, .ref a_this), (3, .int (c_this_of 0)), (6, .int b24_l6)]) hx hb dX10_makesPermutation_63 hl (by decide) rfl (fun ls hl => ?_)
          have L65 : ∀ (n65 : Nat) (b65_l8 : Int32) (b65_c_this_made : Nat → Int32), rk_it2 (fX10_makesPermutation_L65 c_this_of b24_l4 b24_l6 (rk_it3 (fX10_makesPermutation_L24 c_this_stackLong c_this_of) n24)) n65 b65_l8 b65_c_this_made = some r0 → ∀ (H : Heap) (locs : List Loc), va_P D vwCl [(a_this_made, .inl (cI, 60, .inl b65_c_this_made)), (a_this_stackLong, .inl (cJ, 64, .inr (.inl c_this_stackLong)))] H → va_D A [(a_this_made, .inl (cI, 60, .inl b65_c_this_made)), (a_this_stackLong, .inl (cJ, 64, .inr (.inl c_this_stackLong)))] → va_S A s.heap H locs → ∀ (ls : Array Slot), lv_has ls 9 [(0, .ref a_this), (3, .int (c_this_of 0)), (4, .long (b24_l4 / ((c_this_of 0) - b24_l6).toInt64)), (6, .int b24_l6), (7, .int (b24_l4 - b24_l4 / ((c_this_of 0) - b24_l6).toInt64 * ((c_this_of 0) - b24_l6).toInt64).toInt32), (8, .int b65_l8)] → W p l e rmX10_makesPermutation s m args below meth c H locs 0 0 Q (F0 m 65 ls []) := by
            intro n65
            induction n65 with
            | zero => intro b65_l8 b65_c_this_made h; exact rk_no h
            | succ n65 ih65 =>
              intro b65_l8 b65_c_this_made h H locs hP hD hS ls hl
              have h : fX10_makesPermutation_L65 c_this_of b24_l4 b24_l6 (rk_it3 (fX10_makesPermutation_L24 c_this_stackLong c_this_of) n24) (rk_it2 (fX10_makesPermutation_L65 c_this_of b24_l4 b24_l6 (rk_it3 (fX10_makesPermutation_L24 c_this_stackLong c_this_of) n24)) n65) b65_l8 b65_c_this_made = some r0 := h
              unfold fX10_makesPermutation_L65 at h
              have hR := rk_keep hR0 hn hS
              refine lv_iload hx hb dX10_makesPermutation_65 (lv_at hl 5 rfl) ?_
              refine lv_iload_n hx hb dX10_makesPermutation_67 rfl (lv_at hl 1 rfl) ?_
              refine lv_icmp_ge (tgt := 104) hx hb dX10_makesPermutation_68 (by decide) (fun hc12 => ?_) (fun hc12 => ?_)
              · have h := rk_if hc12 h
                refine lv_iinc (v := (b24_l6 + (-1))) (lv' := [(6, .int (b24_l6 + (-1))), (0, .ref a_this), (3, .int (c_this_of 0)), (4, .long (b24_l4 / ((c_this_of 0) - b24_l6).toInt64)), (7, .int (b24_l4 - b24_l4 / ((c_this_of 0) - b24_l6).toInt64 * ((c_this_of 0) - b24_l6).toInt64).toInt32), (8, .int b65_l8)]) hx hb dX10_makesPermutation_104 hl (k := 3) rfl rfl (by decide) rfl (fun ls hl => ?_)
                refine lv_goto (tgt := 24) hx hb dX10_makesPermutation_107 (by decide) ?_
                exact ih24 (b24_l4 / ((c_this_of 0) - b24_l6).toInt64) (b24_l6 + (-1)) b65_c_this_made h _ _ hP hD hS _ (lv_sub hl [1, 2, 3, 0] rfl)
              · have h := rk_nif hc12 h
                refine lv_aload_n hx hb dX10_makesPermutation_71 rfl (lv_at hl 0 rfl) ?_
                refine va_get (D := D) (ci := 9) (v := .ref a_this_made) (C := RX10) (T := TX10) (N := 17) hx hb htc inX10 hown hV.1 hR 0 rfl rfl 8 (by decide) (htc _ w_4_6) (fun _ h9 => h9) rfl dX10_makesPermutation_72 ?_
                refine lv_iload hx hb dX10_makesPermutation_75 (lv_at hl 5 rfl) ?_
                refine lv_dup2_11 hx hb dX10_makesPermutation_77 rfl rfl ?_
                obtain ⟨hg13, h⟩ := rk_gd h
                refine va_iald hx hb hV.1 hP 0 0 rfl rfl hg13 dX10_makesPermutation_78 ?_
                refine lv_aload_n hx hb dX10_makesPermutation_79 rfl (lv_at hl 0 rfl) ?_
                refine va_get (D := D) (ci := 9) (v := .ref a_this_made) (C := RX10) (T := TX10) (N := 17) hx hb htc inX10 hown hV.1 hR 0 rfl rfl 8 (by decide) (htc _ w_4_6) (fun _ h9 => h9) rfl dX10_makesPermutation_80 ?_
                refine lv_iload hx hb dX10_makesPermutation_83 (lv_at hl 5 rfl) ?_
                refine va_iald hx hb hV.1 hP 0 0 rfl rfl hg13 dX10_makesPermutation_85 ?_
                refine lv_iload hx hb dX10_makesPermutation_86 (lv_at hl 4 rfl) ?_
                have B96 : ∀ (b96_t3 : Int32), fX10_makesPermutation_B96 b65_l8 b65_c_this_made (rk_it2 (fX10_makesPermutation_L65 c_this_of b24_l4 b24_l6 (rk_it3 (fX10_makesPermutation_L24 c_this_stackLong c_this_of) n24)) n65) b96_t3 = some r0 → ∀ (H : Heap) (locs : List Loc), va_P D vwCl [(a_this_made, .inl (cI, 60, .inl b65_c_this_made)), (a_this_stackLong, .inl (cJ, 64, .inr (.inl c_this_stackLong)))] H → va_D A [(a_this_made, .inl (cI, 60, .inl b65_c_this_made)), (a_this_stackLong, .inl (cJ, 64, .inr (.inl c_this_stackLong)))] → va_S A s.heap H locs → ∀ (ls : Array Slot), lv_has ls 9 [(0, .ref a_this), (3, .int (c_this_of 0)), (4, .long (b24_l4 / ((c_this_of 0) - b24_l6).toInt64)), (6, .int b24_l6), (7, .int (b24_l4 - b24_l4 / ((c_this_of 0) - b24_l6).toInt64 * ((c_this_of 0) - b24_l6).toInt64).toInt32), (8, .int b65_l8)] → W p l e rmX10_makesPermutation s m args below meth c H locs 0 0 Q (F0 m 96 ls [.int b96_t3, .int (b65_c_this_made b65_l8.toNatClampNeg), .int b65_l8, .ref a_this_made]) := by
                  intro b96_t3 h H locs hP hD hS ls hl
                  unfold fX10_makesPermutation_B96 at h
                  have hR := rk_keep hR0 hn hS
                  refine lv_iadd hx hb dX10_makesPermutation_96 ?_
                  refine va_iast hx hb hV.1 hP hD hS 0 0 rfl rfl hg13 dX10_makesPermutation_97 (fun H locs hP hD hS => ?_)
                  have hP : va_P D vwCl [(a_this_made, .inl (cI, 60, .inl (upd b65_c_this_made b65_l8.toNatClampNeg ((b65_c_this_made b65_l8.toNatClampNeg) + b96_t3)))), (a_this_stackLong, .inl (cJ, 64, .inr (.inl c_this_stackLong)))] H := hP
                  have hD : va_D A [(a_this_made, .inl (cI, 60, .inl (upd b65_c_this_made b65_l8.toNatClampNeg ((b65_c_this_made b65_l8.toNatClampNeg) + b96_t3)))), (a_this_stackLong, .inl (cJ, 64, .inr (.inl c_this_stackLong)))] := hD
                  have hR := rk_keep hR0 hn hS
                  refine lv_iinc (v := (b65_l8 + 1)) (lv' := [(8, .int (b65_l8 + 1)), (0, .ref a_this), (3, .int (c_this_of 0)), (4, .long (b24_l4 / ((c_this_of 0) - b24_l6).toInt64)), (6, .int b24_l6), (7, .int (b24_l4 - b24_l4 / ((c_this_of 0) - b24_l6).toInt64 * ((c_this_of 0) - b24_l6).toInt64).toInt32)]) hx hb dX10_makesPermutation_98 hl (k := 5) rfl rfl (by decide) rfl (fun ls hl => ?_)
                  refine lv_goto (tgt := 65) hx hb dX10_makesPermutation_101 (by decide) ?_
                  exact ih65 (b65_l8 + 1) (upd b65_c_this_made b65_l8.toNatClampNeg ((b65_c_this_made b65_l8.toNatClampNeg) + b96_t3)) h _ _ hP hD hS _ (lv_sub hl [1, 2, 3, 4, 5, 0] rfl)
                refine lv_icmp_lt (tgt := 95) hx hb dX10_makesPermutation_88 (by decide) (fun hc14 => ?_) (fun hc14 => ?_)
                · have h := rk_if hc14 h
                  refine lv_iconst (v := 0) hx hb dX10_makesPermutation_95 (by decide) ?_
                  exact B96 (0 : Int32) h _ _ hP hD hS _ hl
                · have h := rk_nif hc14 h
                  refine lv_iconst (v := 1) hx hb dX10_makesPermutation_91 (by decide) ?_
                  refine lv_goto (tgt := 96) hx hb dX10_makesPermutation_92 (by decide) ?_
                  exact B96 (1 : Int32) h _ _ hP hD hS _ hl
          exact L65 FU (b24_l6 + (1 : Int32)) (upd b24_c_this_made b24_l6.toNatClampNeg (b24_l4 - b24_l4 / ((c_this_of 0) - b24_l6).toInt64 * ((c_this_of 0) - b24_l6).toInt64).toInt32) h _ _ hP hD hS _ (lv_sub hl [3, 4, 1, 5, 2, 0] rfl)
    exact L24 FU v_p1 ((c_this_of 0) - (1 : Int32)) c_this_made h _ _ hP hD hS _ (lv_sub hl [3, 2, 1, 0] rfl)
set_option maxHeartbeats 4000000 in
set_option maxRecDepth 100000 in
theorem mtX10_makesWord (l : Launch) (D : va_G) (cI cJ cO : ClassId) (PL : va_W) (sz : Nat) (a_this : Nat) (a_this_chosen : Nat) (a_this_factorial : Nat) (a_this_catalan : Nat) (a_this_parted : Nat) (a_this_closed : Nat) (f_this_now : Int32) (a_this_of : Nat) (a_this_buffer : Nat) (a_this_made : Nat) (a_this_stackOne : Nat) (a_this_stackOther : Nat) (a_this_stackLong : Nat) (a_this_left : Nat) (f_this_entryMany : Int32) (a_this_entryFamily : Nat) (a_this_entryOf : Nat) (a_this_entryRank : Nat) (c_this_made : Nat → Int32) (c_this_stackOne : Nat → Int32) (c_this_closed : Nat → Int64) (c_this_of : Nat → Int32) (v_p1 : Int64) (r0 : (Nat → Int32) × (Nat → Int32)) (h : fX10_makesWord c_this_made c_this_stackOne c_this_closed c_this_of v_p1 = some r0) : Met l yX10_makesWord (rk_w yX10_makesWord cX10_makesWord 13 none) rmX10_makesWord (va_Pc [.ref a_this, .long v_p1] (rk_B D (rk_TY cI cJ cO) [(a_this_made, .inl (cI, 60, .inl c_this_made)), (a_this_stackOne, .inl (cI, 64, .inl c_this_stackOne))] [(a_this, .inr (9, [.ref a_this_chosen, .ref a_this_factorial, .ref a_this_catalan, .ref a_this_parted, .ref a_this_closed, .int f_this_now, .ref a_this_of, .ref a_this_buffer, .ref a_this_made, .ref a_this_stackOne, .ref a_this_stackOther, .ref a_this_stackLong, .ref a_this_left, .int f_this_entryMany, .ref a_this_entryFamily, .ref a_this_entryOf, .ref a_this_entryRank])), (a_this_closed, .inl (cJ, 1722, .inr (.inl c_this_closed))), (a_this_of, .inl (cI, 4, .inl c_this_of))] PL sz)) (rk_Qv D [(a_this_made, .inl (cI, 60, .inl r0.1)), (a_this_stackOne, .inl (cI, 64, .inl r0.2))] [(a_this_made, .inl (cI, 60, .inl c_this_made)), (a_this_stackOne, .inl (cI, 64, .inl c_this_stackOne))] sz) 0 0 (va_A [(a_this_made, .inl (cI, 60, .inl c_this_made)), (a_this_stackOne, .inl (cI, 64, .inl c_this_stackOne))] sz) := by
  refine rk_metv h (fun x => [(a_this_made, .inl (cI, 60, .inl x.1)), (a_this_stackOne, .inl (cI, 64, .inl x.2))]) (by decide) (Nat.le_of_ble_eq_true rfl) ?_
  intro p e s m args below meth c A ls Q hret hname hF hP hD hA hV hR0 hn hPL hnl hl h hS
  have hx := hF.1
  have hb := hF.2.1
  have hml := hF.2.2.1
  have hown : s.vm.findClass RX10 = some m.cls := hF.2.2.2.1
  have htc := hF.2.2.2.2
  have hP : va_P D vwCl [(a_this_made, .inl (cI, 60, .inl c_this_made)), (a_this_stackOne, .inl (cI, 64, .inl c_this_stackOne))] s.heap := hP
  have hD : va_D A [(a_this_made, .inl (cI, 60, .inl c_this_made)), (a_this_stackOne, .inl (cI, 64, .inl c_this_stackOne))] := hD
  have hR0 : va_P D vwCl [(a_this, .inr (9, [.ref a_this_chosen, .ref a_this_factorial, .ref a_this_catalan, .ref a_this_parted, .ref a_this_closed, .int f_this_now, .ref a_this_of, .ref a_this_buffer, .ref a_this_made, .ref a_this_stackOne, .ref a_this_stackOther, .ref a_this_stackLong, .ref a_this_left, .int f_this_entryMany, .ref a_this_entryFamily, .ref a_this_entryOf, .ref a_this_entryRank])), (a_this_closed, .inl (cJ, 1722, .inr (.inl c_this_closed))), (a_this_of, .inl (cI, 4, .inl c_this_of))] s.heap := hR0
  have hR := hR0
  have hl : lv_has ls 13 [(0, .ref a_this), (1, .long v_p1)] := hl
  unfold fX10_makesWord at h
  refine lv_lload_n hx hb dX10_makesWord_0 rfl (lv_at hl 1 rfl) ?_
  refine lv_lstore_n (lv' := [(3, .long v_p1), (0, .ref a_this), (1, .long v_p1)]) hx hb dX10_makesWord_1 rfl hl (by decide) rfl (fun ls hl => ?_)
  refine lv_iconst (v := 0) hx hb dX10_makesWord_2 (by decide) ?_
  refine lv_istore (lv' := [(5, .int (0 : Int32)), (3, .long v_p1), (0, .ref a_this), (1, .long v_p1)]) hx hb dX10_makesWord_3 hl (by decide) rfl (fun ls hl => ?_)
  refine lv_iconst (v := 0) hx hb dX10_makesWord_5 (by decide) ?_
  refine lv_istore (lv' := [(6, .int (0 : Int32)), (5, .int (0 : Int32)), (3, .long v_p1), (0, .ref a_this), (1, .long v_p1)]) hx hb dX10_makesWord_6 hl (by decide) rfl (fun ls hl => ?_)
  have L8 : ∀ (n8 : Nat) (b8_l3 : Int64) (b8_l5 : Int32) (b8_l6 : Int32) (b8_c_this_made : Nat → Int32) (b8_c_this_stackOne : Nat → Int32), rk_it5 (fX10_makesWord_L8 c_this_closed c_this_of) n8 b8_l3 b8_l5 b8_l6 b8_c_this_made b8_c_this_stackOne = some r0 → ∀ (H : Heap) (locs : List Loc), va_P D vwCl [(a_this_made, .inl (cI, 60, .inl b8_c_this_made)), (a_this_stackOne, .inl (cI, 64, .inl b8_c_this_stackOne))] H → va_D A [(a_this_made, .inl (cI, 60, .inl b8_c_this_made)), (a_this_stackOne, .inl (cI, 64, .inl b8_c_this_stackOne))] → va_S A s.heap H locs → ∀ (ls : Array Slot), lv_has ls 13 [(0, .ref a_this), (3, .long b8_l3), (5, .int b8_l5), (6, .int b8_l6)] → W p l e rmX10_makesWord s m args below meth c H locs 0 0 Q (F0 m 8 ls []) := by
    intro n8
    induction n8 with
    | zero => intro b8_l3 b8_l5 b8_l6 b8_c_this_made b8_c_this_stackOne h; exact rk_no h
    | succ n8 ih8 =>
      intro b8_l3 b8_l5 b8_l6 b8_c_this_made b8_c_this_stackOne h H locs hP hD hS ls hl
      have h : fX10_makesWord_L8 c_this_closed c_this_of (rk_it5 (fX10_makesWord_L8 c_this_closed c_this_of) n8) b8_l3 b8_l5 b8_l6 b8_c_this_made b8_c_this_stackOne = some r0 := h
      unfold fX10_makesWord_L8 at h
      have hR := rk_keep hR0 hn hS
      refine lv_iload hx hb dX10_makesWord_8 (lv_at hl 3 rfl) ?_
      refine lv_iconst (v := 2) hx hb dX10_makesWord_10 (by decide) ?_
      refine lv_aload_n hx hb dX10_makesWord_11 rfl (lv_at hl 0 rfl) ?_
      refine va_get (D := D) (ci := 9) (v := .ref a_this_of) (C := RX10) (T := TX10) (N := 17) hx hb htc inX10 hown hV.1 hR 0 rfl rfl 6 (by decide) (htc _ w_4_4) (fun _ h9 => h9) rfl dX10_makesWord_12 ?_
      refine lv_iconst (v := 0) hx hb dX10_makesWord_15 (by decide) ?_
      refine va_iald hx hb hV.1 hR 2 0 rfl rfl (show vp_in (0 : Int32) 4 from (by decide : ¬ ((0 : Int32) < 0 ∨ 4 ≤ (0 : Int32).toNatClampNeg))) dX10_makesWord_16 ?_
      refine W.eq (g2 := F0 m 17 ls [.int (c_this_of 0), .int (2 : Int32), .int b8_l6]) rfl ?_
      refine lv_imul hx hb dX10_makesWord_17 ?_
      refine lv_icmp_ge (tgt := 204) hx hb dX10_makesWord_18 (by decide) (fun hc1 => ?_) (fun hc1 => ?_)
      · have h := rk_if hc1 h
        exact hret (b8_c_this_made, b8_c_this_stackOne) _ _ _ _ h dX10_makesWord_204 hP hD hS
      · have h := rk_nif hc1 h
        refine lv_iconst (v := 2) hx hb dX10_makesWord_21 (by decide) ?_
        refine lv_aload_n hx hb dX10_makesWord_22 rfl (lv_at hl 0 rfl) ?_
        refine va_get (D := D) (ci := 9) (v := .ref a_this_of) (C := RX10) (T := TX10) (N := 17) hx hb htc inX10 hown hV.1 hR 0 rfl rfl 6 (by decide) (htc _ w_4_4) (fun _ h9 => h9) rfl dX10_makesWord_23 ?_
        refine lv_iconst (v := 0) hx hb dX10_makesWord_26 (by decide) ?_
        refine va_iald hx hb hV.1 hR 2 0 rfl rfl (show vp_in (0 : Int32) 4 from (by decide : ¬ ((0 : Int32) < 0 ∨ 4 ≤ (0 : Int32).toNatClampNeg))) dX10_makesWord_27 ?_
        refine W.eq (g2 := F0 m 28 ls [.int (c_this_of 0), .int (2 : Int32)]) rfl ?_
        refine lv_imul hx hb dX10_makesWord_28 ?_
        refine lv_iconst (v := 1) hx hb dX10_makesWord_29 (by decide) ?_
        refine lv_isub hx hb dX10_makesWord_30 ?_
        refine lv_iload hx hb dX10_makesWord_31 (lv_at hl 3 rfl) ?_
        refine lv_isub hx hb dX10_makesWord_33 ?_
        refine lv_istore (lv' := [(7, .int ((((2 : Int32) * (c_this_of 0)) - (1 : Int32)) - b8_l6)), (0, .ref a_this), (3, .long b8_l3), (5, .int b8_l5), (6, .int b8_l6)]) hx hb dX10_makesWord_34 hl (by decide) rfl (fun ls hl => ?_)
        refine lv_iconst (v := (-1)) hx hb dX10_makesWord_36 (by decide) ?_
        refine lv_istore (lv' := [(8, .int (-1 : Int32)), (7, .int ((((2 : Int32) * (c_this_of 0)) - (1 : Int32)) - b8_l6)), (0, .ref a_this), (3, .long b8_l3), (5, .int b8_l5), (6, .int b8_l6)]) hx hb dX10_makesWord_37 hl (by decide) rfl (fun ls hl => ?_)
        refine lv_lconst (v := 0) hx hb dX10_makesWord_39 (by decide) ?_
        refine lv_lstore (lv' := [(9, .long (0 : Int64)), (8, .int (-1 : Int32)), (7, .int ((((2 : Int32) * (c_this_of 0)) - (1 : Int32)) - b8_l6)), (0, .ref a_this), (3, .long b8_l3), (5, .int b8_l5), (6, .int b8_l6)]) hx hb dX10_makesWord_40 hl (by decide) rfl (fun ls hl => ?_)
        refine lv_iconst (v := 1) hx hb dX10_makesWord_42 (by decide) ?_
        refine lv_istore (lv' := [(11, .int (1 : Int32)), (9, .long (0 : Int64)), (8, .int (-1 : Int32)), (7, .int ((((2 : Int32) * (c_this_of 0)) - (1 : Int32)) - b8_l6)), (0, .ref a_this), (3, .long b8_l3), (5, .int b8_l5), (6, .int b8_l6)]) hx hb dX10_makesWord_43 hl (by decide) rfl (fun ls hl => ?_)
        have L45 : ∀ (n45 : Nat) (b45_l3 : Int64) (b45_l8 : Int32) (b45_l9 : Int64) (b45_l11 : Int32), rk_it4 (fX10_makesWord_L45 c_this_closed c_this_of b8_l5 b8_l6 b8_c_this_made b8_c_this_stackOne (rk_it5 (fX10_makesWord_L8 c_this_closed c_this_of) n8)) n45 b45_l3 b45_l8 b45_l9 b45_l11 = some r0 → ∀ (H : Heap) (locs : List Loc), va_P D vwCl [(a_this_made, .inl (cI, 60, .inl b8_c_this_made)), (a_this_stackOne, .inl (cI, 64, .inl b8_c_this_stackOne))] H → va_D A [(a_this_made, .inl (cI, 60, .inl b8_c_this_made)), (a_this_stackOne, .inl (cI, 64, .inl b8_c_this_stackOne))] → va_S A s.heap H locs → ∀ (ls : Array Slot), lv_has ls 13 [(0, .ref a_this), (3, .long b45_l3), (5, .int b8_l5), (6, .int b8_l6), (7, .int ((((2 : Int32) * (c_this_of 0)) - (1 : Int32)) - b8_l6)), (8, .int b45_l8), (9, .long b45_l9), (11, .int b45_l11)] → W p l e rmX10_makesWord s m args below meth c H locs 0 0 Q (F0 m 45 ls []) := by
          intro n45
          induction n45 with
          | zero => intro b45_l3 b45_l8 b45_l9 b45_l11 h; exact rk_no h
          | succ n45 ih45 =>
            intro b45_l3 b45_l8 b45_l9 b45_l11 h H locs hP hD hS ls hl
            have h : fX10_makesWord_L45 c_this_closed c_this_of b8_l5 b8_l6 b8_c_this_made b8_c_this_stackOne (rk_it5 (fX10_makesWord_L8 c_this_closed c_this_of) n8) (rk_it4 (fX10_makesWord_L45 c_this_closed c_this_of b8_l5 b8_l6 b8_c_this_made b8_c_this_stackOne (rk_it5 (fX10_makesWord_L8 c_this_closed c_this_of) n8)) n45) b45_l3 b45_l8 b45_l9 b45_l11 = some r0 := h
            unfold fX10_makesWord_L45 at h
            have hR := rk_keep hR0 hn hS
            refine lv_iload hx hb dX10_makesWord_45 (lv_at hl 7 rfl) ?_
            refine lv_if_eq (tgt := 164) hx hb dX10_makesWord_47 (by decide) (fun hc2 => ?_) (fun hc2 => ?_)
            · have h := rk_if hc2 h
              refine lv_aload_n hx hb dX10_makesWord_164 rfl (lv_at hl 0 rfl) ?_
              refine va_get (D := D) (ci := 9) (v := .ref a_this_made) (C := RX10) (T := TX10) (N := 17) hx hb htc inX10 hown hV.1 hR 0 rfl rfl 8 (by decide) (htc _ w_4_6) (fun _ h9 => h9) rfl dX10_makesWord_165 ?_
              refine lv_iload hx hb dX10_makesWord_168 (lv_at hl 3 rfl) ?_
              refine lv_iload hx hb dX10_makesWord_170 (lv_at hl 5 rfl) ?_
              obtain ⟨hg3, h⟩ := rk_gd h
              refine va_iast hx hb hV.1 hP hD hS 0 0 rfl rfl hg3 dX10_makesWord_172 (fun H locs hP hD hS => ?_)
              have hP : va_P D vwCl [(a_this_made, .inl (cI, 60, .inl (upd b8_c_this_made b8_l6.toNatClampNeg b45_l8))), (a_this_stackOne, .inl (cI, 64, .inl b8_c_this_stackOne))] H := hP
              have hD : va_D A [(a_this_made, .inl (cI, 60, .inl (upd b8_c_this_made b8_l6.toNatClampNeg b45_l8))), (a_this_stackOne, .inl (cI, 64, .inl b8_c_this_stackOne))] := hD
              have hR := rk_keep hR0 hn hS
              refine lv_iload hx hb dX10_makesWord_173 (lv_at hl 5 rfl) ?_
              refine lv_iconst (v := 2) hx hb dX10_makesWord_175 (by decide) ?_
              refine lv_irem hx hb dX10_makesWord_176 (by decide) ?_
              have B198 : ∀ (b198_l5 : Int32) (b198_c_this_stackOne : Nat → Int32), fX10_makesWord_B198 b8_l6 b8_c_this_made (rk_it5 (fX10_makesWord_L8 c_this_closed c_this_of) n8) b45_l3 b45_l8 b198_l5 b198_c_this_stackOne = some r0 → ∀ (H : Heap) (locs : List Loc), va_P D vwCl [(a_this_made, .inl (cI, 60, .inl (upd b8_c_this_made b8_l6.toNatClampNeg b45_l8))), (a_this_stackOne, .inl (cI, 64, .inl b198_c_this_stackOne))] H → va_D A [(a_this_made, .inl (cI, 60, .inl (upd b8_c_this_made b8_l6.toNatClampNeg b45_l8))), (a_this_stackOne, .inl (cI, 64, .inl b198_c_this_stackOne))] → va_S A s.heap H locs → ∀ (ls : Array Slot), lv_has ls 13 [(0, .ref a_this), (3, .long b45_l3), (5, .int b198_l5), (6, .int b8_l6)] → W p l e rmX10_makesWord s m args below meth c H locs 0 0 Q (F0 m 198 ls []) := by
                intro b198_l5 b198_c_this_stackOne h H locs hP hD hS ls hl
                unfold fX10_makesWord_B198 at h
                have hR := rk_keep hR0 hn hS
                refine lv_iinc (v := (b8_l6 + 1)) (lv' := [(6, .int (b8_l6 + 1)), (0, .ref a_this), (3, .long b45_l3), (5, .int b198_l5)]) hx hb dX10_makesWord_198 hl (k := 3) rfl rfl (by decide) rfl (fun ls hl => ?_)
                refine lv_goto (tgt := 8) hx hb dX10_makesWord_201 (by decide) ?_
                exact ih8 b45_l3 b198_l5 (b8_l6 + 1) (upd b8_c_this_made b8_l6.toNatClampNeg b45_l8) b198_c_this_stackOne h _ _ hP hD hS _ (lv_sub hl [1, 2, 3, 0] rfl)
              refine lv_if_ne (tgt := 195) hx hb dX10_makesWord_177 (by decide) (fun hc4 => ?_) (fun hc4 => ?_)
              · have h := rk_if hc4 h
                refine lv_iinc (v := (b8_l5 + (-1))) (lv' := [(5, .int (b8_l5 + (-1))), (0, .ref a_this), (3, .long b45_l3), (6, .int b8_l6), (7, .int ((((2 : Int32) * (c_this_of 0)) - (1 : Int32)) - b8_l6)), (8, .int b45_l8), (9, .long b45_l9), (11, .int b45_l11)]) hx hb dX10_makesWord_195 hl (k := 2) rfl rfl (by decide) rfl (fun ls hl => ?_)
                exact B198 (b8_l5 + (-1)) b8_c_this_stackOne h _ _ hP hD hS _ (lv_sub hl [1, 2, 0, 3] rfl)
              · have h := rk_nnif hc4 h
                refine lv_aload_n hx hb dX10_makesWord_180 rfl (lv_at hl 0 rfl) ?_
                refine va_get (D := D) (ci := 9) (v := .ref a_this_stackOne) (C := RX10) (T := TX10) (N := 17) hx hb htc inX10 hown hV.1 hR 0 rfl rfl 9 (by decide) (htc _ w_4_7) (fun _ h9 => h9) rfl dX10_makesWord_181 ?_
                refine lv_iload hx hb dX10_makesWord_184 (lv_at hl 2 rfl) ?_
                refine lv_iload hx hb dX10_makesWord_186 (lv_at hl 5 rfl) ?_
                obtain ⟨hg5, h⟩ := rk_gd h
                refine va_iast hx hb hV.1 hP hD hS 1 0 rfl rfl hg5 dX10_makesWord_188 (fun H locs hP hD hS => ?_)
                have hP : va_P D vwCl [(a_this_made, .inl (cI, 60, .inl (upd b8_c_this_made b8_l6.toNatClampNeg b45_l8))), (a_this_stackOne, .inl (cI, 64, .inl (upd b8_c_this_stackOne b8_l5.toNatClampNeg b45_l8)))] H := hP
                have hD : va_D A [(a_this_made, .inl (cI, 60, .inl (upd b8_c_this_made b8_l6.toNatClampNeg b45_l8))), (a_this_stackOne, .inl (cI, 64, .inl (upd b8_c_this_stackOne b8_l5.toNatClampNeg b45_l8)))] := hD
                have hR := rk_keep hR0 hn hS
                refine lv_iinc (v := (b8_l5 + 1)) (lv' := [(5, .int (b8_l5 + 1)), (0, .ref a_this), (3, .long b45_l3), (6, .int b8_l6), (7, .int ((((2 : Int32) * (c_this_of 0)) - (1 : Int32)) - b8_l6)), (8, .int b45_l8), (9, .long b45_l9), (11, .int b45_l11)]) hx hb dX10_makesWord_189 hl (k := 2) rfl rfl (by decide) rfl (fun ls hl => ?_)
                refine lv_goto (tgt := 198) hx hb dX10_makesWord_192 (by decide) ?_
                exact B198 (b8_l5 + 1) (upd b8_c_this_stackOne b8_l5.toNatClampNeg b45_l8) h _ _ hP hD hS _ (lv_sub hl [1, 2, 0, 3] rfl)
            · have h := rk_nif hc2 h
              refine lv_lload_n hx hb dX10_makesWord_50 rfl (lv_at hl 1 rfl) ?_
              refine lv_lload hx hb dX10_makesWord_51 (lv_at hl 6 rfl) ?_
              refine lv_lsub hx hb dX10_makesWord_53 ?_
              refine lv_lstore_n (lv' := [(3, .long (b45_l3 - b45_l9)), (0, .ref a_this), (5, .int b8_l5), (6, .int b8_l6), (7, .int ((((2 : Int32) * (c_this_of 0)) - (1 : Int32)) - b8_l6)), (8, .int b45_l8), (9, .long b45_l9), (11, .int b45_l11)]) hx hb dX10_makesWord_54 rfl hl (by decide) rfl (fun ls hl => ?_)
              refine lv_iinc (v := (b45_l8 + 1)) (lv' := [(8, .int (b45_l8 + 1)), (3, .long (b45_l3 - b45_l9)), (0, .ref a_this), (5, .int b8_l5), (6, .int b8_l6), (7, .int ((((2 : Int32) * (c_this_of 0)) - (1 : Int32)) - b8_l6)), (9, .long b45_l9), (11, .int b45_l11)]) hx hb dX10_makesWord_55 hl (k := 5) rfl rfl (by decide) rfl (fun ls hl => ?_)
              refine lv_iload hx hb dX10_makesWord_58 (lv_at hl 0 rfl) ?_
              refine lv_iconst (v := 2) hx hb dX10_makesWord_60 (by decide) ?_
              refine lv_irem hx hb dX10_makesWord_61 (by decide) ?_
              refine lv_iconst (v := 1) hx hb dX10_makesWord_62 (by decide) ?_
              have B92 : ∀ (b92_t0 : Int32), fX10_makesWord_B92 c_this_closed c_this_of b8_l5 b8_l6 b45_l3 b45_l8 b45_l9 (rk_it4 (fX10_makesWord_L45 c_this_closed c_this_of b8_l5 b8_l6 b8_c_this_made b8_c_this_stackOne (rk_it5 (fX10_makesWord_L8 c_this_closed c_this_of) n8)) n45) b92_t0 = some r0 → ∀ (H : Heap) (locs : List Loc), va_P D vwCl [(a_this_made, .inl (cI, 60, .inl b8_c_this_made)), (a_this_stackOne, .inl (cI, 64, .inl b8_c_this_stackOne))] H → va_D A [(a_this_made, .inl (cI, 60, .inl b8_c_this_made)), (a_this_stackOne, .inl (cI, 64, .inl b8_c_this_stackOne))] → va_S A s.heap H locs → ∀ (ls : Array Slot), lv_has ls 13 [(0, .ref a_this), (3, .long (b45_l3 - b45_l9)), (5, .int b8_l5), (6, .int b8_l6), (7, .int ((((2 : Int32) * (c_this_of 0)) - (1 : Int32)) - b8_l6)), (8, .int (b45_l8 + 1))] → W p l e rmX10_makesWord s m args below meth c H locs 0 0 Q (F0 m 92 ls [.int b92_t0]) := by
                intro b92_t0 h H locs hP hD hS ls hl
                unfold fX10_makesWord_B92 at h
                have hR := rk_keep hR0 hn hS
                refine lv_istore (lv' := [(12, .int b92_t0), (0, .ref a_this), (3, .long (b45_l3 - b45_l9)), (5, .int b8_l5), (6, .int b8_l6), (7, .int ((((2 : Int32) * (c_this_of 0)) - (1 : Int32)) - b8_l6)), (8, .int (b45_l8 + 1))]) hx hb dX10_makesWord_92 hl (by decide) rfl (fun ls hl => ?_)
                refine lv_iload hx hb dX10_makesWord_94 (lv_at hl 6 rfl) ?_
                refine lv_iconst (v := 2) hx hb dX10_makesWord_96 (by decide) ?_
                refine lv_irem hx hb dX10_makesWord_97 (by decide) ?_
                have B145 : ∀ (b145_t0 : Int64), fX10_makesWord_B145 b45_l3 b45_l8 b45_l9 (rk_it4 (fX10_makesWord_L45 c_this_closed c_this_of b8_l5 b8_l6 b8_c_this_made b8_c_this_stackOne (rk_it5 (fX10_makesWord_L8 c_this_closed c_this_of) n8)) n45) b145_t0 = some r0 → ∀ (H : Heap) (locs : List Loc), va_P D vwCl [(a_this_made, .inl (cI, 60, .inl b8_c_this_made)), (a_this_stackOne, .inl (cI, 64, .inl b8_c_this_stackOne))] H → va_D A [(a_this_made, .inl (cI, 60, .inl b8_c_this_made)), (a_this_stackOne, .inl (cI, 64, .inl b8_c_this_stackOne))] → va_S A s.heap H locs → ∀ (ls : Array Slot), lv_has ls 13 [(0, .ref a_this), (3, .long (b45_l3 - b45_l9)), (5, .int b8_l5), (6, .int b8_l6), (7, .int ((((2 : Int32) * (c_this_of 0)) - (1 : Int32)) - b8_l6)), (8, .int (b45_l8 + 1))] → W p l e rmX10_makesWord s m args below meth c H locs 0 0 Q (F0 m 145 ls [.long b145_t0]) := by
                  intro b145_t0 h H locs hP hD hS ls hl
                  unfold fX10_makesWord_B145 at h
                  have hR := rk_keep hR0 hn hS
                  refine lv_lstore (lv' := [(9, .long b145_t0), (0, .ref a_this), (3, .long (b45_l3 - b45_l9)), (5, .int b8_l5), (6, .int b8_l6), (7, .int ((((2 : Int32) * (c_this_of 0)) - (1 : Int32)) - b8_l6)), (8, .int (b45_l8 + 1))]) hx hb dX10_makesWord_145 hl (by decide) rfl (fun ls hl => ?_)
                  refine lv_lload_n hx hb dX10_makesWord_147 rfl (lv_at hl 2 rfl) ?_
                  refine lv_lload hx hb dX10_makesWord_148 (lv_at hl 0 rfl) ?_
                  have B159 : ∀ (b159_t0 : Int32), fX10_makesWord_B159 b45_l3 b45_l8 b45_l9 (rk_it4 (fX10_makesWord_L45 c_this_closed c_this_of b8_l5 b8_l6 b8_c_this_made b8_c_this_stackOne (rk_it5 (fX10_makesWord_L8 c_this_closed c_this_of) n8)) n45) b145_t0 b159_t0 = some r0 → ∀ (H : Heap) (locs : List Loc), va_P D vwCl [(a_this_made, .inl (cI, 60, .inl b8_c_this_made)), (a_this_stackOne, .inl (cI, 64, .inl b8_c_this_stackOne))] H → va_D A [(a_this_made, .inl (cI, 60, .inl b8_c_this_made)), (a_this_stackOne, .inl (cI, 64, .inl b8_c_this_stackOne))] → va_S A s.heap H locs → ∀ (ls : Array Slot), lv_has ls 13 [(0, .ref a_this), (3, .long (b45_l3 - b45_l9)), (5, .int b8_l5), (6, .int b8_l6), (7, .int ((((2 : Int32) * (c_this_of 0)) - (1 : Int32)) - b8_l6)), (8, .int (b45_l8 + 1)), (9, .long b145_t0)] → W p l e rmX10_makesWord s m args below meth c H locs 0 0 Q (F0 m 159 ls [.int b159_t0]) := by
                    intro b159_t0 h H locs hP hD hS ls hl
                    unfold fX10_makesWord_B159 at h
                    have hR := rk_keep hR0 hn hS
                    refine lv_istore (lv' := [(11, .int b159_t0), (0, .ref a_this), (3, .long (b45_l3 - b45_l9)), (5, .int b8_l5), (6, .int b8_l6), (7, .int ((((2 : Int32) * (c_this_of 0)) - (1 : Int32)) - b8_l6)), (8, .int (b45_l8 + 1)), (9, .long b145_t0)]) hx hb dX10_makesWord_159 hl (by decide) rfl (fun ls hl => ?_)
                    refine lv_goto (tgt := 45) hx hb dX10_makesWord_161 (by decide) ?_
                    exact ih45 (b45_l3 - b45_l9) (b45_l8 + 1) b145_t0 b159_t0 h _ _ hP hD hS _ (lv_sub hl [1, 2, 3, 4, 5, 6, 7, 0] rfl)
                  refine rk_lclt (tgt := 158) hx hb dX10_makesWord_150 dX10_makesWord_151 (by decide) (fun hc6 => ?_) (fun hc6 => ?_)
                  · have h := rk_if hc6 h
                    refine lv_iconst (v := 0) hx hb dX10_makesWord_158 (by decide) ?_
                    exact B159 (0 : Int32) h _ _ hP hD hS _ (lv_sub hl [1, 2, 3, 4, 5, 6, 0] rfl)
                  · have h := rk_nif hc6 h
                    refine lv_iconst (v := 1) hx hb dX10_makesWord_154 (by decide) ?_
                    refine lv_goto (tgt := 159) hx hb dX10_makesWord_155 (by decide) ?_
                    exact B159 (1 : Int32) h _ _ hP hD hS _ (lv_sub hl [1, 2, 3, 4, 5, 6, 0] rfl)
                refine lv_if_ne (tgt := 120) hx hb dX10_makesWord_98 (by decide) (fun hc7 => ?_) (fun hc7 => ?_)
                · have h := rk_if hc7 h
                  refine lv_iload hx hb dX10_makesWord_120 (lv_at hl 0 rfl) ?_
                  refine lv_if_eq (tgt := 144) hx hb dX10_makesWord_122 (by decide) (fun hc8 => ?_) (fun hc8 => ?_)
                  · have h := rk_if hc8 h
                    refine lv_lconst (v := 0) hx hb dX10_makesWord_144 (by decide) ?_
                    exact B145 (0 : Int64) h _ _ hP hD hS _ (lv_sub hl [1, 2, 3, 4, 5, 6] rfl)
                  · have h := rk_nif hc8 h
                    refine lv_aload_n hx hb dX10_makesWord_125 rfl (lv_at hl 1 rfl) ?_
                    refine lv_iload hx hb dX10_makesWord_126 (lv_at hl 5 rfl) ?_
                    refine lv_iload hx hb dX10_makesWord_128 (lv_at hl 3 rfl) ?_
                    refine lv_iconst (v := 1) hx hb dX10_makesWord_130 (by decide) ?_
                    refine lv_isub hx hb dX10_makesWord_131 ?_
                    refine lv_aload_n hx hb dX10_makesWord_132 rfl (lv_at hl 1 rfl) ?_
                    refine va_get (D := D) (ci := 9) (v := .ref a_this_of) (C := RX10) (T := TX10) (N := 17) hx hb htc inX10 hown hV.1 hR 0 rfl rfl 6 (by decide) (htc _ w_4_4) (fun _ h9 => h9) rfl dX10_makesWord_133 ?_
                    refine lv_iconst (v := 1) hx hb dX10_makesWord_136 (by decide) ?_
                    refine va_iald hx hb hV.1 hR 2 0 rfl rfl (show vp_in (1 : Int32) 4 from (by decide : ¬ ((1 : Int32) < 0 ∨ 4 ≤ (1 : Int32).toNatClampNeg))) dX10_makesWord_137 ?_
                    refine W.eq (g2 := F0 m 138 ls [.int (c_this_of 1), .int (b8_l5 - (1 : Int32)), .int ((((2 : Int32) * (c_this_of 0)) - (1 : Int32)) - b8_l6), .ref a_this]) rfl ?_
                    obtain ⟨r_138, hc_138, h⟩ := rk_bd h
                    refine rk_l (wr := [(a_this_made, .inl (cI, 60, .inl b8_c_this_made)), (a_this_stackOne, .inl (cI, 64, .inl b8_c_this_stackOne))]) (va_runV (C := RX10) (As := [.int ((((2 : Int32) * (c_this_of 0)) - (1 : Int32)) - b8_l6), .int (b8_l5 - (1 : Int32)), .int (c_this_of 1)]) (rest := []) hF (mtX10_waysOn l D cI cJ cO PL _ a_this a_this_chosen a_this_factorial a_this_catalan a_this_parted a_this_closed f_this_now a_this_of a_this_buffer a_this_made a_this_stackOne a_this_stackOther a_this_stackLong a_this_left f_this_entryMany a_this_entryFamily a_this_entryOf a_this_entryRank c_this_closed ((((2 : Int32) * (c_this_of 0)) - (1 : Int32)) - b8_l6) (b8_l5 - (1 : Int32)) (c_this_of 1) r_138 hc_138) (cwV 3 htc (rk_gV w_4_91 w_4_93 ws_43 w_1_7 w_4_94) rfl rfl rfl (by decide +kernel) ⟨(Nat.le_of_ble_eq_true rfl), (Nat.le_of_ble_eq_true rfl)⟩) (rk_preV (va_recv hV.1 hR (ci := 9) (q0 := 0) rfl rfl) (rk_preS hP hD hS hR hn hPL hnl hV [] [(false, 0), (false, 1)] rfl (by decide) rfl (by decide))) rfl rfl hl.1 rfl (lv_room (Nat.le_of_ble_eq_true rfl)) dX10_makesWord_138 ⟨(Nat.le_of_ble_eq_true rfl), (Nat.le_of_ble_eq_true rfl)⟩) hP hD hS hA hR0 hn [] [0, 1] rfl rfl (by decide) (by decide) (fun H locs hP hD hS hR => ?_)
                    have hP : va_P D vwCl [(a_this_made, .inl (cI, 60, .inl b8_c_this_made)), (a_this_stackOne, .inl (cI, 64, .inl b8_c_this_stackOne))] H := hP
                    have hD : va_D A [(a_this_made, .inl (cI, 60, .inl b8_c_this_made)), (a_this_stackOne, .inl (cI, 64, .inl b8_c_this_stackOne))] := hD
                    refine lv_goto (tgt := 145) hx hb dX10_makesWord_141 (by decide) ?_
                    exact B145 r_138 h _ _ hP hD hS _ (lv_sub hl [1, 2, 3, 4, 5, 6] rfl)
                · have h := rk_nnif hc7 h
                  refine lv_aload_n hx hb dX10_makesWord_101 rfl (lv_at hl 1 rfl) ?_
                  refine lv_iload hx hb dX10_makesWord_102 (lv_at hl 5 rfl) ?_
                  refine lv_iload hx hb dX10_makesWord_104 (lv_at hl 3 rfl) ?_
                  refine lv_iconst (v := 1) hx hb dX10_makesWord_106 (by decide) ?_
                  refine lv_iadd hx hb dX10_makesWord_107 ?_
                  refine lv_aload_n hx hb dX10_makesWord_108 rfl (lv_at hl 1 rfl) ?_
                  refine va_get (D := D) (ci := 9) (v := .ref a_this_of) (C := RX10) (T := TX10) (N := 17) hx hb htc inX10 hown hV.1 hR 0 rfl rfl 6 (by decide) (htc _ w_4_4) (fun _ h9 => h9) rfl dX10_makesWord_109 ?_
                  refine lv_iconst (v := 1) hx hb dX10_makesWord_112 (by decide) ?_
                  refine va_iald hx hb hV.1 hR 2 0 rfl rfl (show vp_in (1 : Int32) 4 from (by decide : ¬ ((1 : Int32) < 0 ∨ 4 ≤ (1 : Int32).toNatClampNeg))) dX10_makesWord_113 ?_
                  refine W.eq (g2 := F0 m 114 ls [.int (c_this_of 1), .int (b8_l5 + (1 : Int32)), .int ((((2 : Int32) * (c_this_of 0)) - (1 : Int32)) - b8_l6), .ref a_this]) rfl ?_
                  obtain ⟨r_114, hc_114, h⟩ := rk_bd h
                  refine rk_l (wr := [(a_this_made, .inl (cI, 60, .inl b8_c_this_made)), (a_this_stackOne, .inl (cI, 64, .inl b8_c_this_stackOne))]) (va_runV (C := RX10) (As := [.int ((((2 : Int32) * (c_this_of 0)) - (1 : Int32)) - b8_l6), .int (b8_l5 + (1 : Int32)), .int (c_this_of 1)]) (rest := []) hF (mtX10_waysOn l D cI cJ cO PL _ a_this a_this_chosen a_this_factorial a_this_catalan a_this_parted a_this_closed f_this_now a_this_of a_this_buffer a_this_made a_this_stackOne a_this_stackOther a_this_stackLong a_this_left f_this_entryMany a_this_entryFamily a_this_entryOf a_this_entryRank c_this_closed ((((2 : Int32) * (c_this_of 0)) - (1 : Int32)) - b8_l6) (b8_l5 + (1 : Int32)) (c_this_of 1) r_114 hc_114) (cwV 3 htc (rk_gV w_4_91 w_4_93 ws_43 w_1_7 w_4_94) rfl rfl rfl (by decide +kernel) ⟨(Nat.le_of_ble_eq_true rfl), (Nat.le_of_ble_eq_true rfl)⟩) (rk_preV (va_recv hV.1 hR (ci := 9) (q0 := 0) rfl rfl) (rk_preS hP hD hS hR hn hPL hnl hV [] [(false, 0), (false, 1)] rfl (by decide) rfl (by decide))) rfl rfl hl.1 rfl (lv_room (Nat.le_of_ble_eq_true rfl)) dX10_makesWord_114 ⟨(Nat.le_of_ble_eq_true rfl), (Nat.le_of_ble_eq_true rfl)⟩) hP hD hS hA hR0 hn [] [0, 1] rfl rfl (by decide) (by decide) (fun H locs hP hD hS hR => ?_)
                  have hP : va_P D vwCl [(a_this_made, .inl (cI, 60, .inl b8_c_this_made)), (a_this_stackOne, .inl (cI, 64, .inl b8_c_this_stackOne))] H := hP
                  have hD : va_D A [(a_this_made, .inl (cI, 60, .inl b8_c_this_made)), (a_this_stackOne, .inl (cI, 64, .inl b8_c_this_stackOne))] := hD
                  refine lv_goto (tgt := 145) hx hb dX10_makesWord_117 (by decide) ?_
                  exact B145 r_114 h _ _ hP hD hS _ (lv_sub hl [1, 2, 3, 4, 5, 6] rfl)
              have B91 : fX10_makesWord_B91 c_this_closed c_this_of b8_l5 b8_l6 b45_l3 b45_l8 b45_l9 (rk_it4 (fX10_makesWord_L45 c_this_closed c_this_of b8_l5 b8_l6 b8_c_this_made b8_c_this_stackOne (rk_it5 (fX10_makesWord_L8 c_this_closed c_this_of) n8)) n45) = some r0 → ∀ (H : Heap) (locs : List Loc), va_P D vwCl [(a_this_made, .inl (cI, 60, .inl b8_c_this_made)), (a_this_stackOne, .inl (cI, 64, .inl b8_c_this_stackOne))] H → va_D A [(a_this_made, .inl (cI, 60, .inl b8_c_this_made)), (a_this_stackOne, .inl (cI, 64, .inl b8_c_this_stackOne))] → va_S A s.heap H locs → ∀ (ls : Array Slot), lv_has ls 13 [(0, .ref a_this), (3, .long (b45_l3 - b45_l9)), (5, .int b8_l5), (6, .int b8_l6), (7, .int ((((2 : Int32) * (c_this_of 0)) - (1 : Int32)) - b8_l6)), (8, .int (b45_l8 + 1))] → W p l e rmX10_makesWord s m args below meth c H locs 0 0 Q (F0 m 91 ls []) := by
                intro  h H locs hP hD hS ls hl
                unfold fX10_makesWord_B91 at h
                have hR := rk_keep hR0 hn hS
                refine lv_iconst (v := 0) hx hb dX10_makesWord_91 (by decide) ?_
                exact B92 (0 : Int32) h _ _ hP hD hS _ hl
              refine lv_icmp_ne (tgt := 91) hx hb dX10_makesWord_63 (by decide) (fun hc9 => ?_) (fun hc9 => ?_)
              · have h := rk_if hc9 h
                exact B91  h _ _ hP hD hS _ (lv_sub hl [2, 1, 3, 4, 5, 0] rfl)
              · have h := rk_nnif hc9 h
                refine lv_iload hx hb dX10_makesWord_66 (lv_at hl 3 rfl) ?_
                refine lv_if_le (tgt := 91) hx hb dX10_makesWord_68 (by decide) (fun hc10 => ?_) (fun hc10 => ?_)
                · have h := rk_if hc10 h
                  exact B91  h _ _ hP hD hS _ (lv_sub hl [2, 1, 3, 4, 5, 0] rfl)
                · have h := rk_nif hc10 h
                  refine lv_aload_n hx hb dX10_makesWord_71 rfl (lv_at hl 2 rfl) ?_
                  refine va_get (D := D) (ci := 9) (v := .ref a_this_stackOne) (C := RX10) (T := TX10) (N := 17) hx hb htc inX10 hown hV.1 hR 0 rfl rfl 9 (by decide) (htc _ w_4_7) (fun _ h9 => h9) rfl dX10_makesWord_72 ?_
                  refine lv_iload hx hb dX10_makesWord_75 (lv_at hl 3 rfl) ?_
                  refine lv_iconst (v := 1) hx hb dX10_makesWord_77 (by decide) ?_
                  refine lv_isub hx hb dX10_makesWord_78 ?_
                  obtain ⟨hg11, h⟩ := rk_gd h
                  refine va_iald hx hb hV.1 hP 1 0 rfl rfl hg11 dX10_makesWord_79 ?_
                  refine lv_iload hx hb dX10_makesWord_80 (lv_at hl 0 rfl) ?_
                  refine lv_iconst (v := 1) hx hb dX10_makesWord_82 (by decide) ?_
                  refine lv_isub hx hb dX10_makesWord_83 ?_
                  refine lv_icmp_ne (tgt := 91) hx hb dX10_makesWord_84 (by decide) (fun hc12 => ?_) (fun hc12 => ?_)
                  · have h := rk_if hc12 h
                    exact B91  h _ _ hP hD hS _ (lv_sub hl [2, 1, 3, 4, 5, 0] rfl)
                  · have h := rk_nnif hc12 h
                    refine lv_iconst (v := 1) hx hb dX10_makesWord_87 (by decide) ?_
                    refine lv_goto (tgt := 92) hx hb dX10_makesWord_88 (by decide) ?_
                    exact B92 (1 : Int32) h _ _ hP hD hS _ (lv_sub hl [2, 1, 3, 4, 5, 0] rfl)
        exact L45 FU b8_l3 (-1 : Int32) (0 : Int64) (1 : Int32) h _ _ hP hD hS _ (lv_sub hl [4, 5, 6, 7, 3, 2, 1, 0] rfl)
  exact L8 FU v_p1 (0 : Int32) (0 : Int32) c_this_made c_this_stackOne h _ _ hP hD hS _ (lv_sub hl [3, 2, 1, 0] rfl)
set_option maxHeartbeats 4000000 in
set_option maxRecDepth 100000 in
theorem mtX10_makesTree (l : Launch) (D : va_G) (cI cJ cO : ClassId) (PL : va_W) (sz : Nat) (a_this : Nat) (a_this_chosen : Nat) (a_this_factorial : Nat) (a_this_catalan : Nat) (a_this_parted : Nat) (a_this_closed : Nat) (f_this_now : Int32) (a_this_of : Nat) (a_this_buffer : Nat) (a_this_made : Nat) (a_this_stackOne : Nat) (a_this_stackOther : Nat) (a_this_stackLong : Nat) (a_this_left : Nat) (f_this_entryMany : Int32) (a_this_entryFamily : Nat) (a_this_entryOf : Nat) (a_this_entryRank : Nat) (c_this_made : Nat → Int32) (c_this_stackLong : Nat → Int64) (c_this_stackOne : Nat → Int32) (c_this_catalan : Nat → Int64) (c_this_of : Nat → Int32) (v_p1 : Int64) (r0 : (Nat → Int32) × (Nat → Int64) × (Nat → Int32)) (h : fX10_makesTree c_this_made c_this_stackLong c_this_stackOne c_this_catalan c_this_of v_p1 = some r0) : Met l yX10_makesTree (rk_w yX10_makesTree cX10_makesTree 11 none) rmX10_makesTree (va_Pc [.ref a_this, .long v_p1] (rk_B D (rk_TY cI cJ cO) [(a_this_made, .inl (cI, 60, .inl c_this_made)), (a_this_stackLong, .inl (cJ, 64, .inr (.inl c_this_stackLong))), (a_this_stackOne, .inl (cI, 64, .inl c_this_stackOne))] [(a_this, .inr (9, [.ref a_this_chosen, .ref a_this_factorial, .ref a_this_catalan, .ref a_this_parted, .ref a_this_closed, .int f_this_now, .ref a_this_of, .ref a_this_buffer, .ref a_this_made, .ref a_this_stackOne, .ref a_this_stackOther, .ref a_this_stackLong, .ref a_this_left, .int f_this_entryMany, .ref a_this_entryFamily, .ref a_this_entryOf, .ref a_this_entryRank])), (a_this_catalan, .inl (cJ, 31, .inr (.inl c_this_catalan))), (a_this_of, .inl (cI, 4, .inl c_this_of))] PL sz)) (rk_Qv D [(a_this_made, .inl (cI, 60, .inl r0.1)), (a_this_stackLong, .inl (cJ, 64, .inr (.inl r0.2.1))), (a_this_stackOne, .inl (cI, 64, .inl r0.2.2))] [(a_this_made, .inl (cI, 60, .inl c_this_made)), (a_this_stackLong, .inl (cJ, 64, .inr (.inl c_this_stackLong))), (a_this_stackOne, .inl (cI, 64, .inl c_this_stackOne))] sz) 0 0 (va_A [(a_this_made, .inl (cI, 60, .inl c_this_made)), (a_this_stackLong, .inl (cJ, 64, .inr (.inl c_this_stackLong))), (a_this_stackOne, .inl (cI, 64, .inl c_this_stackOne))] sz) := by
  refine rk_metv h (fun x => [(a_this_made, .inl (cI, 60, .inl x.1)), (a_this_stackLong, .inl (cJ, 64, .inr (.inl x.2.1))), (a_this_stackOne, .inl (cI, 64, .inl x.2.2))]) (by decide) (Nat.le_of_ble_eq_true rfl) ?_
  intro p e s m args below meth c A ls Q hret hname hF hP hD hA hV hR0 hn hPL hnl hl h hS
  have hx := hF.1
  have hb := hF.2.1
  have hml := hF.2.2.1
  have hown : s.vm.findClass RX10 = some m.cls := hF.2.2.2.1
  have htc := hF.2.2.2.2
  have hP : va_P D vwCl [(a_this_made, .inl (cI, 60, .inl c_this_made)), (a_this_stackLong, .inl (cJ, 64, .inr (.inl c_this_stackLong))), (a_this_stackOne, .inl (cI, 64, .inl c_this_stackOne))] s.heap := hP
  have hD : va_D A [(a_this_made, .inl (cI, 60, .inl c_this_made)), (a_this_stackLong, .inl (cJ, 64, .inr (.inl c_this_stackLong))), (a_this_stackOne, .inl (cI, 64, .inl c_this_stackOne))] := hD
  have hR0 : va_P D vwCl [(a_this, .inr (9, [.ref a_this_chosen, .ref a_this_factorial, .ref a_this_catalan, .ref a_this_parted, .ref a_this_closed, .int f_this_now, .ref a_this_of, .ref a_this_buffer, .ref a_this_made, .ref a_this_stackOne, .ref a_this_stackOther, .ref a_this_stackLong, .ref a_this_left, .int f_this_entryMany, .ref a_this_entryFamily, .ref a_this_entryOf, .ref a_this_entryRank])), (a_this_catalan, .inl (cJ, 31, .inr (.inl c_this_catalan))), (a_this_of, .inl (cI, 4, .inl c_this_of))] s.heap := hR0
  have hR := hR0
  have hl : lv_has ls 11 [(0, .ref a_this), (1, .long v_p1)] := hl
  unfold fX10_makesTree at h
  refine lv_iconst (v := 1) hx hb dX10_makesTree_0 (by decide) ?_
  refine lv_istore_n (lv' := [(3, .int (1 : Int32)), (0, .ref a_this), (1, .long v_p1)]) hx hb dX10_makesTree_1 rfl hl (by decide) rfl (fun ls hl => ?_)
  refine lv_aload_n hx hb dX10_makesTree_2 rfl (lv_at hl 1 rfl) ?_
  refine va_get (D := D) (ci := 9) (v := .ref a_this_stackOne) (C := RX10) (T := TX10) (N := 17) hx hb htc inX10 hown hV.1 hR 0 rfl rfl 9 (by decide) (htc _ w_4_7) (fun _ h9 => h9) rfl dX10_makesTree_3 ?_
  refine lv_iconst (v := 0) hx hb dX10_makesTree_6 (by decide) ?_
  refine lv_aload_n hx hb dX10_makesTree_7 rfl (lv_at hl 1 rfl) ?_
  refine va_get (D := D) (ci := 9) (v := .ref a_this_of) (C := RX10) (T := TX10) (N := 17) hx hb htc inX10 hown hV.1 hR 0 rfl rfl 6 (by decide) (htc _ w_4_4) (fun _ h9 => h9) rfl dX10_makesTree_8 ?_
  refine lv_iconst (v := 0) hx hb dX10_makesTree_11 (by decide) ?_
  refine va_iald hx hb hV.1 hR 2 0 rfl rfl (show vp_in (0 : Int32) 4 from (by decide : ¬ ((0 : Int32) < 0 ∨ 4 ≤ (0 : Int32).toNatClampNeg))) dX10_makesTree_12 ?_
  refine W.eq (g2 := F0 m 13 ls [.int (c_this_of 0), .int (0 : Int32), .ref a_this_stackOne]) rfl ?_
  refine va_iast hx hb hV.1 hP hD hS 2 0 rfl rfl (show vp_in (0 : Int32) 64 from (by decide : ¬ ((0 : Int32) < 0 ∨ 64 ≤ (0 : Int32).toNatClampNeg))) dX10_makesTree_13 (fun H locs hP hD hS => ?_)
  have hP : va_P D vwCl [(a_this_made, .inl (cI, 60, .inl c_this_made)), (a_this_stackLong, .inl (cJ, 64, .inr (.inl c_this_stackLong))), (a_this_stackOne, .inl (cI, 64, .inl (upd c_this_stackOne 0 (c_this_of 0))))] H := hP
  have hD : va_D A [(a_this_made, .inl (cI, 60, .inl c_this_made)), (a_this_stackLong, .inl (cJ, 64, .inr (.inl c_this_stackLong))), (a_this_stackOne, .inl (cI, 64, .inl (upd c_this_stackOne 0 (c_this_of 0))))] := hD
  have hR := rk_keep hR0 hn hS
  refine lv_aload_n hx hb dX10_makesTree_14 rfl (lv_at hl 1 rfl) ?_
  refine va_get (D := D) (ci := 9) (v := .ref a_this_stackLong) (C := RX10) (T := TX10) (N := 17) hx hb htc inX10 hown hV.1 hR 0 rfl rfl 11 (by decide) (htc _ w_4_9) (fun _ h9 => h9) rfl dX10_makesTree_15 ?_
  refine lv_iconst (v := 0) hx hb dX10_makesTree_18 (by decide) ?_
  refine lv_lload_n hx hb dX10_makesTree_19 rfl (lv_at hl 2 rfl) ?_
  refine va_last hx hb hV.1 hP hD hS 1 1 rfl rfl (show vp_in (0 : Int32) 64 from (by decide : ¬ ((0 : Int32) < 0 ∨ 64 ≤ (0 : Int32).toNatClampNeg))) dX10_makesTree_20 (fun H locs hP hD hS => ?_)
  have hP : va_P D vwCl [(a_this_made, .inl (cI, 60, .inl c_this_made)), (a_this_stackLong, .inl (cJ, 64, .inr (.inl (vp_updL c_this_stackLong 0 v_p1)))), (a_this_stackOne, .inl (cI, 64, .inl (upd c_this_stackOne 0 (c_this_of 0))))] H := hP
  have hD : va_D A [(a_this_made, .inl (cI, 60, .inl c_this_made)), (a_this_stackLong, .inl (cJ, 64, .inr (.inl (vp_updL c_this_stackLong 0 v_p1)))), (a_this_stackOne, .inl (cI, 64, .inl (upd c_this_stackOne 0 (c_this_of 0))))] := hD
  have hR := rk_keep hR0 hn hS
  refine lv_iconst (v := 0) hx hb dX10_makesTree_21 (by decide) ?_
  refine lv_istore (lv' := [(4, .int (0 : Int32)), (3, .int (1 : Int32)), (0, .ref a_this), (1, .long v_p1)]) hx hb dX10_makesTree_22 hl (by decide) rfl (fun ls hl => ?_)
  have L24 : ∀ (n24 : Nat) (b24_l3 : Int32) (b24_l4 : Int32) (b24_c_this_made : Nat → Int32) (b24_c_this_stackLong : Nat → Int64) (b24_c_this_stackOne : Nat → Int32), rk_it5 (fX10_makesTree_L24 c_this_catalan c_this_of) n24 b24_l3 b24_l4 b24_c_this_made b24_c_this_stackLong b24_c_this_stackOne = some r0 → ∀ (H : Heap) (locs : List Loc), va_P D vwCl [(a_this_made, .inl (cI, 60, .inl b24_c_this_made)), (a_this_stackLong, .inl (cJ, 64, .inr (.inl b24_c_this_stackLong))), (a_this_stackOne, .inl (cI, 64, .inl b24_c_this_stackOne))] H → va_D A [(a_this_made, .inl (cI, 60, .inl b24_c_this_made)), (a_this_stackLong, .inl (cJ, 64, .inr (.inl b24_c_this_stackLong))), (a_this_stackOne, .inl (cI, 64, .inl b24_c_this_stackOne))] → va_S A s.heap H locs → ∀ (ls : Array Slot), lv_has ls 11 [(0, .ref a_this), (3, .int b24_l3), (4, .int b24_l4)] → W p l e rmX10_makesTree s m args below meth c H locs 0 0 Q (F0 m 24 ls []) := by
    intro n24
    induction n24 with
    | zero => intro b24_l3 b24_l4 b24_c_this_made b24_c_this_stackLong b24_c_this_stackOne h; exact rk_no h
    | succ n24 ih24 =>
      intro b24_l3 b24_l4 b24_c_this_made b24_c_this_stackLong b24_c_this_stackOne h H locs hP hD hS ls hl
      have h : fX10_makesTree_L24 c_this_catalan c_this_of (rk_it5 (fX10_makesTree_L24 c_this_catalan c_this_of) n24) b24_l3 b24_l4 b24_c_this_made b24_c_this_stackLong b24_c_this_stackOne = some r0 := h
      unfold fX10_makesTree_L24 at h
      have hR := rk_keep hR0 hn hS
      refine lv_iload hx hb dX10_makesTree_24 (lv_at hl 2 rfl) ?_
      refine lv_aload_n hx hb dX10_makesTree_26 rfl (lv_at hl 0 rfl) ?_
      refine va_get (D := D) (ci := 9) (v := .ref a_this_of) (C := RX10) (T := TX10) (N := 17) hx hb htc inX10 hown hV.1 hR 0 rfl rfl 6 (by decide) (htc _ w_4_4) (fun _ h9 => h9) rfl dX10_makesTree_27 ?_
      refine lv_iconst (v := 0) hx hb dX10_makesTree_30 (by decide) ?_
      refine va_iald hx hb hV.1 hR 2 0 rfl rfl (show vp_in (0 : Int32) 4 from (by decide : ¬ ((0 : Int32) < 0 ∨ 4 ≤ (0 : Int32).toNatClampNeg))) dX10_makesTree_31 ?_
      refine W.eq (g2 := F0 m 32 ls [.int (c_this_of 0), .int b24_l4]) rfl ?_
      refine lv_icmp_ge (tgt := 207) hx hb dX10_makesTree_32 (by decide) (fun hc1 => ?_) (fun hc1 => ?_)
      · have h := rk_if hc1 h
        exact hret (b24_c_this_made, b24_c_this_stackLong, b24_c_this_stackOne) _ _ _ _ h dX10_makesTree_207 hP hD hS
      · have h := rk_nif hc1 h
        refine lv_iinc (v := (b24_l3 + (-1))) (lv' := [(3, .int (b24_l3 + (-1))), (0, .ref a_this), (4, .int b24_l4)]) hx hb dX10_makesTree_35 hl (k := 1) rfl rfl (by decide) rfl (fun ls hl => ?_)
        refine lv_aload_n hx hb dX10_makesTree_38 rfl (lv_at hl 1 rfl) ?_
        refine va_get (D := D) (ci := 9) (v := .ref a_this_stackOne) (C := RX10) (T := TX10) (N := 17) hx hb htc inX10 hown hV.1 hR 0 rfl rfl 9 (by decide) (htc _ w_4_7) (fun _ h9 => h9) rfl dX10_makesTree_39 ?_
        refine lv_iload_n hx hb dX10_makesTree_42 rfl (lv_at hl 0 rfl) ?_
        obtain ⟨hg2, h⟩ := rk_gd h
        refine va_iald hx hb hV.1 hP 2 0 rfl rfl hg2 dX10_makesTree_43 ?_
        refine lv_istore (lv' := [(5, .int (b24_c_this_stackOne (b24_l3 + (-1)).toNatClampNeg)), (3, .int (b24_l3 + (-1))), (0, .ref a_this), (4, .int b24_l4)]) hx hb dX10_makesTree_44 hl (by decide) rfl (fun ls hl => ?_)
        refine lv_aload_n hx hb dX10_makesTree_46 rfl (lv_at hl 2 rfl) ?_
        refine va_get (D := D) (ci := 9) (v := .ref a_this_stackLong) (C := RX10) (T := TX10) (N := 17) hx hb htc inX10 hown hV.1 hR 0 rfl rfl 11 (by decide) (htc _ w_4_9) (fun _ h9 => h9) rfl dX10_makesTree_47 ?_
        refine lv_iload_n hx hb dX10_makesTree_50 rfl (lv_at hl 1 rfl) ?_
        refine va_lald hx hb hV.1 hP 1 1 rfl rfl hg2 dX10_makesTree_51 ?_
        refine lv_lstore (lv' := [(6, .long (b24_c_this_stackLong (b24_l3 + (-1)).toNatClampNeg)), (5, .int (b24_c_this_stackOne (b24_l3 + (-1)).toNatClampNeg)), (3, .int (b24_l3 + (-1))), (0, .ref a_this), (4, .int b24_l4)]) hx hb dX10_makesTree_52 hl (by decide) rfl (fun ls hl => ?_)
        refine lv_iconst (v := 0) hx hb dX10_makesTree_54 (by decide) ?_
        refine lv_istore (lv' := [(8, .int (0 : Int32)), (6, .long (b24_c_this_stackLong (b24_l3 + (-1)).toNatClampNeg)), (5, .int (b24_c_this_stackOne (b24_l3 + (-1)).toNatClampNeg)), (3, .int (b24_l3 + (-1))), (0, .ref a_this), (4, .int b24_l4)]) hx hb dX10_makesTree_55 hl (by decide) rfl (fun ls hl => ?_)
        have L57 : ∀ (n57 : Nat) (b57_l6 : Int64) (b57_l8 : Int32), rk_it2 (fX10_makesTree_L57 c_this_catalan b24_l3 b24_l4 b24_c_this_made b24_c_this_stackLong b24_c_this_stackOne (rk_it5 (fX10_makesTree_L24 c_this_catalan c_this_of) n24)) n57 b57_l6 b57_l8 = some r0 → ∀ (H : Heap) (locs : List Loc), va_P D vwCl [(a_this_made, .inl (cI, 60, .inl b24_c_this_made)), (a_this_stackLong, .inl (cJ, 64, .inr (.inl b24_c_this_stackLong))), (a_this_stackOne, .inl (cI, 64, .inl b24_c_this_stackOne))] H → va_D A [(a_this_made, .inl (cI, 60, .inl b24_c_this_made)), (a_this_stackLong, .inl (cJ, 64, .inr (.inl b24_c_this_stackLong))), (a_this_stackOne, .inl (cI, 64, .inl b24_c_this_stackOne))] → va_S A s.heap H locs → ∀ (ls : Array Slot), lv_has ls 11 [(0, .ref a_this), (3, .int (b24_l3 + (-1))), (4, .int b24_l4), (5, .int (b24_c_this_stackOne (b24_l3 + (-1)).toNatClampNeg)), (6, .long b57_l6), (8, .int b57_l8)] → W p l e rmX10_makesTree s m args below meth c H locs 0 0 Q (F0 m 57 ls []) := by
          intro n57
          induction n57 with
          | zero => intro b57_l6 b57_l8 h; exact rk_no h
          | succ n57 ih57 =>
            intro b57_l6 b57_l8 h H locs hP hD hS ls hl
            have h : fX10_makesTree_L57 c_this_catalan b24_l3 b24_l4 b24_c_this_made b24_c_this_stackLong b24_c_this_stackOne (rk_it5 (fX10_makesTree_L24 c_this_catalan c_this_of) n24) (rk_it2 (fX10_makesTree_L57 c_this_catalan b24_l3 b24_l4 b24_c_this_made b24_c_this_stackLong b24_c_this_stackOne (rk_it5 (fX10_makesTree_L24 c_this_catalan c_this_of) n24)) n57) b57_l6 b57_l8 = some r0 := h
            unfold fX10_makesTree_L57 at h
            have hR := rk_keep hR0 hn hS
            refine lv_lload hx hb dX10_makesTree_57 (lv_at hl 4 rfl) ?_
            refine lv_aload_n hx hb dX10_makesTree_59 rfl (lv_at hl 0 rfl) ?_
            refine va_get (D := D) (ci := 9) (v := .ref a_this_catalan) (C := RX10) (T := TX10) (N := 17) hx hb htc inX10 hown hV.1 hR 0 rfl rfl 2 (by decide) (htc _ w_4_0) (fun _ h9 => h9) rfl dX10_makesTree_60 ?_
            refine lv_iload hx hb dX10_makesTree_63 (lv_at hl 5 rfl) ?_
            obtain ⟨hg3, h⟩ := rk_gd h
            refine va_lald hx hb hV.1 hR 1 1 rfl rfl hg3 dX10_makesTree_65 ?_
            refine lv_aload_n hx hb dX10_makesTree_66 rfl (lv_at hl 0 rfl) ?_
            refine va_get (D := D) (ci := 9) (v := .ref a_this_catalan) (C := RX10) (T := TX10) (N := 17) hx hb htc inX10 hown hV.1 hR 0 rfl rfl 2 (by decide) (htc _ w_4_0) (fun _ h9 => h9) rfl dX10_makesTree_67 ?_
            refine lv_iload hx hb dX10_makesTree_70 (lv_at hl 3 rfl) ?_
            refine lv_iconst (v := 1) hx hb dX10_makesTree_72 (by decide) ?_
            refine lv_isub hx hb dX10_makesTree_73 ?_
            refine lv_iload hx hb dX10_makesTree_74 (lv_at hl 5 rfl) ?_
            refine lv_isub hx hb dX10_makesTree_76 ?_
            obtain ⟨hg4, h⟩ := rk_gd h
            refine va_lald hx hb hV.1 hR 1 1 rfl rfl hg4 dX10_makesTree_77 ?_
            refine lv_lmul hx hb dX10_makesTree_78 ?_
            refine rk_lclt (tgt := 114) hx hb dX10_makesTree_79 dX10_makesTree_80 (by decide) (fun hc5 => ?_) (fun hc5 => ?_)
            · have h := rk_if hc5 h
              refine lv_aload_n hx hb dX10_makesTree_114 rfl (lv_at hl 0 rfl) ?_
              refine va_get (D := D) (ci := 9) (v := .ref a_this_made) (C := RX10) (T := TX10) (N := 17) hx hb htc inX10 hown hV.1 hR 0 rfl rfl 8 (by decide) (htc _ w_4_6) (fun _ h9 => h9) rfl dX10_makesTree_115 ?_
              refine lv_iload hx hb dX10_makesTree_118 (lv_at hl 2 rfl) ?_
              refine lv_iload hx hb dX10_makesTree_120 (lv_at hl 5 rfl) ?_
              obtain ⟨hg6, h⟩ := rk_gd h
              refine va_iast hx hb hV.1 hP hD hS 0 0 rfl rfl hg6 dX10_makesTree_122 (fun H locs hP hD hS => ?_)
              have hP : va_P D vwCl [(a_this_made, .inl (cI, 60, .inl (upd b24_c_this_made b24_l4.toNatClampNeg b57_l8))), (a_this_stackLong, .inl (cJ, 64, .inr (.inl b24_c_this_stackLong))), (a_this_stackOne, .inl (cI, 64, .inl b24_c_this_stackOne))] H := hP
              have hD : va_D A [(a_this_made, .inl (cI, 60, .inl (upd b24_c_this_made b24_l4.toNatClampNeg b57_l8))), (a_this_stackLong, .inl (cJ, 64, .inr (.inl b24_c_this_stackLong))), (a_this_stackOne, .inl (cI, 64, .inl b24_c_this_stackOne))] := hD
              have hR := rk_keep hR0 hn hS
              refine lv_aload_n hx hb dX10_makesTree_123 rfl (lv_at hl 0 rfl) ?_
              refine va_get (D := D) (ci := 9) (v := .ref a_this_catalan) (C := RX10) (T := TX10) (N := 17) hx hb htc inX10 hown hV.1 hR 0 rfl rfl 2 (by decide) (htc _ w_4_0) (fun _ h9 => h9) rfl dX10_makesTree_124 ?_
              refine lv_iload hx hb dX10_makesTree_127 (lv_at hl 3 rfl) ?_
              refine lv_iconst (v := 1) hx hb dX10_makesTree_129 (by decide) ?_
              refine lv_isub hx hb dX10_makesTree_130 ?_
              refine lv_iload hx hb dX10_makesTree_131 (lv_at hl 5 rfl) ?_
              refine lv_isub hx hb dX10_makesTree_133 ?_
              refine va_lald hx hb hV.1 hR 1 1 rfl rfl hg4 dX10_makesTree_134 ?_
              refine lv_lstore (lv' := [(9, .long (c_this_catalan (((b24_c_this_stackOne (b24_l3 + (-1)).toNatClampNeg) - (1 : Int32)) - b57_l8).toNatClampNeg)), (0, .ref a_this), (3, .int (b24_l3 + (-1))), (4, .int b24_l4), (5, .int (b24_c_this_stackOne (b24_l3 + (-1)).toNatClampNeg)), (6, .long b57_l6), (8, .int b57_l8)]) hx hb dX10_makesTree_135 hl (by decide) rfl (fun ls hl => ?_)
              refine lv_iload hx hb dX10_makesTree_137 (lv_at hl 4 rfl) ?_
              refine lv_iconst (v := 1) hx hb dX10_makesTree_139 (by decide) ?_
              refine lv_isub hx hb dX10_makesTree_140 ?_
              refine lv_iload hx hb dX10_makesTree_141 (lv_at hl 6 rfl) ?_
              refine lv_isub hx hb dX10_makesTree_143 ?_
              have B174 : ∀ (b174_l3 : Int32) (b174_c_this_stackLong : Nat → Int64) (b174_c_this_stackOne : Nat → Int32), fX10_makesTree_B174 c_this_catalan b24_l3 b24_l4 b24_c_this_made b24_c_this_stackOne (rk_it5 (fX10_makesTree_L24 c_this_catalan c_this_of) n24) b57_l6 b57_l8 b174_l3 b174_c_this_stackLong b174_c_this_stackOne = some r0 → ∀ (H : Heap) (locs : List Loc), va_P D vwCl [(a_this_made, .inl (cI, 60, .inl (upd b24_c_this_made b24_l4.toNatClampNeg b57_l8))), (a_this_stackLong, .inl (cJ, 64, .inr (.inl b174_c_this_stackLong))), (a_this_stackOne, .inl (cI, 64, .inl b174_c_this_stackOne))] H → va_D A [(a_this_made, .inl (cI, 60, .inl (upd b24_c_this_made b24_l4.toNatClampNeg b57_l8))), (a_this_stackLong, .inl (cJ, 64, .inr (.inl b174_c_this_stackLong))), (a_this_stackOne, .inl (cI, 64, .inl b174_c_this_stackOne))] → va_S A s.heap H locs → ∀ (ls : Array Slot), lv_has ls 11 [(0, .ref a_this), (3, .int b174_l3), (4, .int b24_l4), (6, .long b57_l6), (8, .int b57_l8), (9, .long (c_this_catalan (((b24_c_this_stackOne (b24_l3 + (-1)).toNatClampNeg) - (1 : Int32)) - b57_l8).toNatClampNeg))] → W p l e rmX10_makesTree s m args below meth c H locs 0 0 Q (F0 m 174 ls []) := by
                intro b174_l3 b174_c_this_stackLong b174_c_this_stackOne h H locs hP hD hS ls hl
                unfold fX10_makesTree_B174 at h
                have hR := rk_keep hR0 hn hS
                refine lv_iload hx hb dX10_makesTree_174 (lv_at hl 4 rfl) ?_
                have B201 : ∀ (b201_l3 : Int32) (b201_c_this_stackLong : Nat → Int64) (b201_c_this_stackOne : Nat → Int32), fX10_makesTree_B201 b24_l4 b24_c_this_made (rk_it5 (fX10_makesTree_L24 c_this_catalan c_this_of) n24) b57_l8 b201_l3 b201_c_this_stackLong b201_c_this_stackOne = some r0 → ∀ (H : Heap) (locs : List Loc), va_P D vwCl [(a_this_made, .inl (cI, 60, .inl (upd b24_c_this_made b24_l4.toNatClampNeg b57_l8))), (a_this_stackLong, .inl (cJ, 64, .inr (.inl b201_c_this_stackLong))), (a_this_stackOne, .inl (cI, 64, .inl b201_c_this_stackOne))] H → va_D A [(a_this_made, .inl (cI, 60, .inl (upd b24_c_this_made b24_l4.toNatClampNeg b57_l8))), (a_this_stackLong, .inl (cJ, 64, .inr (.inl b201_c_this_stackLong))), (a_this_stackOne, .inl (cI, 64, .inl b201_c_this_stackOne))] → va_S A s.heap H locs → ∀ (ls : Array Slot), lv_has ls 11 [(0, .ref a_this), (3, .int b201_l3), (4, .int b24_l4)] → W p l e rmX10_makesTree s m args below meth c H locs 0 0 Q (F0 m 201 ls []) := by
                  intro b201_l3 b201_c_this_stackLong b201_c_this_stackOne h H locs hP hD hS ls hl
                  unfold fX10_makesTree_B201 at h
                  have hR := rk_keep hR0 hn hS
                  refine lv_iinc (v := (b24_l4 + 1)) (lv' := [(4, .int (b24_l4 + 1)), (0, .ref a_this), (3, .int b201_l3)]) hx hb dX10_makesTree_201 hl (k := 2) rfl rfl (by decide) rfl (fun ls hl => ?_)
                  refine lv_goto (tgt := 24) hx hb dX10_makesTree_204 (by decide) ?_
                  exact ih24 b201_l3 (b24_l4 + 1) (upd b24_c_this_made b24_l4.toNatClampNeg b57_l8) b201_c_this_stackLong b201_c_this_stackOne h _ _ hP hD hS _ (lv_sub hl [1, 2, 0] rfl)
                refine lv_if_le (tgt := 201) hx hb dX10_makesTree_176 (by decide) (fun hc7 => ?_) (fun hc7 => ?_)
                · have h := rk_if hc7 h
                  exact B201 b174_l3 b174_c_this_stackLong b174_c_this_stackOne h _ _ hP hD hS _ (lv_sub hl [0, 1, 2] rfl)
                · have h := rk_nif hc7 h
                  refine lv_aload_n hx hb dX10_makesTree_179 rfl (lv_at hl 0 rfl) ?_
                  refine va_get (D := D) (ci := 9) (v := .ref a_this_stackOne) (C := RX10) (T := TX10) (N := 17) hx hb htc inX10 hown hV.1 hR 0 rfl rfl 9 (by decide) (htc _ w_4_7) (fun _ h9 => h9) rfl dX10_makesTree_180 ?_
                  refine lv_iload_n hx hb dX10_makesTree_183 rfl (lv_at hl 1 rfl) ?_
                  refine lv_iload hx hb dX10_makesTree_184 (lv_at hl 4 rfl) ?_
                  obtain ⟨hg8, h⟩ := rk_gd h
                  refine va_iast hx hb hV.1 hP hD hS 2 0 rfl rfl hg8 dX10_makesTree_186 (fun H locs hP hD hS => ?_)
                  have hP : va_P D vwCl [(a_this_made, .inl (cI, 60, .inl (upd b24_c_this_made b24_l4.toNatClampNeg b57_l8))), (a_this_stackLong, .inl (cJ, 64, .inr (.inl b174_c_this_stackLong))), (a_this_stackOne, .inl (cI, 64, .inl (upd b174_c_this_stackOne b174_l3.toNatClampNeg b57_l8)))] H := hP
                  have hD : va_D A [(a_this_made, .inl (cI, 60, .inl (upd b24_c_this_made b24_l4.toNatClampNeg b57_l8))), (a_this_stackLong, .inl (cJ, 64, .inr (.inl b174_c_this_stackLong))), (a_this_stackOne, .inl (cI, 64, .inl (upd b174_c_this_stackOne b174_l3.toNatClampNeg b57_l8)))] := hD
                  have hR := rk_keep hR0 hn hS
                  refine lv_aload_n hx hb dX10_makesTree_187 rfl (lv_at hl 0 rfl) ?_
                  refine va_get (D := D) (ci := 9) (v := .ref a_this_stackLong) (C := RX10) (T := TX10) (N := 17) hx hb htc inX10 hown hV.1 hR 0 rfl rfl 11 (by decide) (htc _ w_4_9) (fun _ h9 => h9) rfl dX10_makesTree_188 ?_
                  refine lv_iload_n hx hb dX10_makesTree_191 rfl (lv_at hl 1 rfl) ?_
                  refine lv_lload hx hb dX10_makesTree_192 (lv_at hl 3 rfl) ?_
                  refine lv_lload hx hb dX10_makesTree_194 (lv_at hl 5 rfl) ?_
                  obtain ⟨hz9, h⟩ := rk_gd h
                  refine lv_ldiv hx hb dX10_makesTree_196 hz9 ?_
                  refine va_last hx hb hV.1 hP hD hS 1 1 rfl rfl hg8 dX10_makesTree_197 (fun H locs hP hD hS => ?_)
                  have hP : va_P D vwCl [(a_this_made, .inl (cI, 60, .inl (upd b24_c_this_made b24_l4.toNatClampNeg b57_l8))), (a_this_stackLong, .inl (cJ, 64, .inr (.inl (vp_updL b174_c_this_stackLong b174_l3.toNatClampNeg (b57_l6 / (c_this_catalan (((b24_c_this_stackOne (b24_l3 + (-1)).toNatClampNeg) - (1 : Int32)) - b57_l8).toNatClampNeg)))))), (a_this_stackOne, .inl (cI, 64, .inl (upd b174_c_this_stackOne b174_l3.toNatClampNeg b57_l8)))] H := hP
                  have hD : va_D A [(a_this_made, .inl (cI, 60, .inl (upd b24_c_this_made b24_l4.toNatClampNeg b57_l8))), (a_this_stackLong, .inl (cJ, 64, .inr (.inl (vp_updL b174_c_this_stackLong b174_l3.toNatClampNeg (b57_l6 / (c_this_catalan (((b24_c_this_stackOne (b24_l3 + (-1)).toNatClampNeg) - (1 : Int32)) - b57_l8).toNatClampNeg)))))), (a_this_stackOne, .inl (cI, 64, .inl (upd b174_c_this_stackOne b174_l3.toNatClampNeg b57_l8)))] := hD
                  have hR := rk_keep hR0 hn hS
                  refine lv_iinc (v := (b174_l3 + 1)) (lv' := [(3, .int (b174_l3 + 1)), (0, .ref a_this), (4, .int b24_l4), (6, .long b57_l6), (8, .int b57_l8), (9, .long (c_this_catalan (((b24_c_this_stackOne (b24_l3 + (-1)).toNatClampNeg) - (1 : Int32)) - b57_l8).toNatClampNeg))]) hx hb dX10_makesTree_198 hl (k := 1) rfl rfl (by decide) rfl (fun ls hl => ?_)
                  exact B201 (b174_l3 + 1) (vp_updL b174_c_this_stackLong b174_l3.toNatClampNeg (b57_l6 / (c_this_catalan (((b24_c_this_stackOne (b24_l3 + (-1)).toNatClampNeg) - (1 : Int32)) - b57_l8).toNatClampNeg))) (upd b174_c_this_stackOne b174_l3.toNatClampNeg b57_l8) h _ _ hP hD hS _ (lv_sub hl [1, 0, 2] rfl)
              refine lv_if_le (tgt := 174) hx hb dX10_makesTree_144 (by decide) (fun hc10 => ?_) (fun hc10 => ?_)
              · have h := rk_if hc10 h
                exact B174 (b24_l3 + (-1)) b24_c_this_stackLong b24_c_this_stackOne h _ _ hP hD hS _ (lv_sub hl [1, 2, 3, 5, 6, 0] rfl)
              · have h := rk_nif hc10 h
                refine lv_aload_n hx hb dX10_makesTree_147 rfl (lv_at hl 1 rfl) ?_
                refine va_get (D := D) (ci := 9) (v := .ref a_this_stackOne) (C := RX10) (T := TX10) (N := 17) hx hb htc inX10 hown hV.1 hR 0 rfl rfl 9 (by decide) (htc _ w_4_7) (fun _ h9 => h9) rfl dX10_makesTree_148 ?_
                refine lv_iload_n hx hb dX10_makesTree_151 rfl (lv_at hl 2 rfl) ?_
                refine lv_iload hx hb dX10_makesTree_152 (lv_at hl 4 rfl) ?_
                refine lv_iconst (v := 1) hx hb dX10_makesTree_154 (by decide) ?_
                refine lv_isub hx hb dX10_makesTree_155 ?_
                refine lv_iload hx hb dX10_makesTree_156 (lv_at hl 6 rfl) ?_
                refine lv_isub hx hb dX10_makesTree_158 ?_
                refine va_iast hx hb hV.1 hP hD hS 2 0 rfl rfl hg2 dX10_makesTree_159 (fun H locs hP hD hS => ?_)
                have hP : va_P D vwCl [(a_this_made, .inl (cI, 60, .inl (upd b24_c_this_made b24_l4.toNatClampNeg b57_l8))), (a_this_stackLong, .inl (cJ, 64, .inr (.inl b24_c_this_stackLong))), (a_this_stackOne, .inl (cI, 64, .inl (upd b24_c_this_stackOne (b24_l3 + (-1)).toNatClampNeg (((b24_c_this_stackOne (b24_l3 + (-1)).toNatClampNeg) - (1 : Int32)) - b57_l8))))] H := hP
                have hD : va_D A [(a_this_made, .inl (cI, 60, .inl (upd b24_c_this_made b24_l4.toNatClampNeg b57_l8))), (a_this_stackLong, .inl (cJ, 64, .inr (.inl b24_c_this_stackLong))), (a_this_stackOne, .inl (cI, 64, .inl (upd b24_c_this_stackOne (b24_l3 + (-1)).toNatClampNeg (((b24_c_this_stackOne (b24_l3 + (-1)).toNatClampNeg) - (1 : Int32)) - b57_l8))))] := hD
                have hR := rk_keep hR0 hn hS
                refine lv_aload_n hx hb dX10_makesTree_160 rfl (lv_at hl 1 rfl) ?_
                refine va_get (D := D) (ci := 9) (v := .ref a_this_stackLong) (C := RX10) (T := TX10) (N := 17) hx hb htc inX10 hown hV.1 hR 0 rfl rfl 11 (by decide) (htc _ w_4_9) (fun _ h9 => h9) rfl dX10_makesTree_161 ?_
                refine lv_iload_n hx hb dX10_makesTree_164 rfl (lv_at hl 2 rfl) ?_
                refine lv_lload hx hb dX10_makesTree_165 (lv_at hl 5 rfl) ?_
                refine lv_lload hx hb dX10_makesTree_167 (lv_at hl 0 rfl) ?_
                obtain ⟨hz11, h⟩ := rk_gd h
                refine lv_lrem hx hb dX10_makesTree_169 hz11 ?_
                refine va_last hx hb hV.1 hP hD hS 1 1 rfl rfl hg2 dX10_makesTree_170 (fun H locs hP hD hS => ?_)
                have hP : va_P D vwCl [(a_this_made, .inl (cI, 60, .inl (upd b24_c_this_made b24_l4.toNatClampNeg b57_l8))), (a_this_stackLong, .inl (cJ, 64, .inr (.inl (vp_updL b24_c_this_stackLong (b24_l3 + (-1)).toNatClampNeg (b57_l6 - b57_l6 / (c_this_catalan (((b24_c_this_stackOne (b24_l3 + (-1)).toNatClampNeg) - (1 : Int32)) - b57_l8).toNatClampNeg) * (c_this_catalan (((b24_c_this_stackOne (b24_l3 + (-1)).toNatClampNeg) - (1 : Int32)) - b57_l8).toNatClampNeg)))))), (a_this_stackOne, .inl (cI, 64, .inl (upd b24_c_this_stackOne (b24_l3 + (-1)).toNatClampNeg (((b24_c_this_stackOne (b24_l3 + (-1)).toNatClampNeg) - (1 : Int32)) - b57_l8))))] H := hP
                have hD : va_D A [(a_this_made, .inl (cI, 60, .inl (upd b24_c_this_made b24_l4.toNatClampNeg b57_l8))), (a_this_stackLong, .inl (cJ, 64, .inr (.inl (vp_updL b24_c_this_stackLong (b24_l3 + (-1)).toNatClampNeg (b57_l6 - b57_l6 / (c_this_catalan (((b24_c_this_stackOne (b24_l3 + (-1)).toNatClampNeg) - (1 : Int32)) - b57_l8).toNatClampNeg) * (c_this_catalan (((b24_c_this_stackOne (b24_l3 + (-1)).toNatClampNeg) - (1 : Int32)) - b57_l8).toNatClampNeg)))))), (a_this_stackOne, .inl (cI, 64, .inl (upd b24_c_this_stackOne (b24_l3 + (-1)).toNatClampNeg (((b24_c_this_stackOne (b24_l3 + (-1)).toNatClampNeg) - (1 : Int32)) - b57_l8))))] := hD
                have hR := rk_keep hR0 hn hS
                refine lv_iinc (v := ((b24_l3 + (-1)) + 1)) (lv' := [(3, .int ((b24_l3 + (-1)) + 1)), (9, .long (c_this_catalan (((b24_c_this_stackOne (b24_l3 + (-1)).toNatClampNeg) - (1 : Int32)) - b57_l8).toNatClampNeg)), (0, .ref a_this), (4, .int b24_l4), (5, .int (b24_c_this_stackOne (b24_l3 + (-1)).toNatClampNeg)), (6, .long b57_l6), (8, .int b57_l8)]) hx hb dX10_makesTree_171 hl (k := 2) rfl rfl (by decide) rfl (fun ls hl => ?_)
                exact B174 ((b24_l3 + (-1)) + 1) (vp_updL b24_c_this_stackLong (b24_l3 + (-1)).toNatClampNeg (b57_l6 - b57_l6 / (c_this_catalan (((b24_c_this_stackOne (b24_l3 + (-1)).toNatClampNeg) - (1 : Int32)) - b57_l8).toNatClampNeg) * (c_this_catalan (((b24_c_this_stackOne (b24_l3 + (-1)).toNatClampNeg) - (1 : Int32)) - b57_l8).toNatClampNeg))) (upd b24_c_this_stackOne (b24_l3 + (-1)).toNatClampNeg (((b24_c_this_stackOne (b24_l3 + (-1)).toNatClampNeg) - (1 : Int32)) - b57_l8)) h _ _ hP hD hS _ (lv_sub hl [2, 0, 3, 5, 6, 1] rfl)
            · have h := rk_nif hc5 h
              refine lv_lload hx hb dX10_makesTree_83 (lv_at hl 4 rfl) ?_
              refine lv_aload_n hx hb dX10_makesTree_85 rfl (lv_at hl 0 rfl) ?_
              refine va_get (D := D) (ci := 9) (v := .ref a_this_catalan) (C := RX10) (T := TX10) (N := 17) hx hb htc inX10 hown hV.1 hR 0 rfl rfl 2 (by decide) (htc _ w_4_0) (fun _ h9 => h9) rfl dX10_makesTree_86 ?_
              refine lv_iload hx hb dX10_makesTree_89 (lv_at hl 5 rfl) ?_
              refine va_lald hx hb hV.1 hR 1 1 rfl rfl hg3 dX10_makesTree_91 ?_
              refine lv_aload_n hx hb dX10_makesTree_92 rfl (lv_at hl 0 rfl) ?_
              refine va_get (D := D) (ci := 9) (v := .ref a_this_catalan) (C := RX10) (T := TX10) (N := 17) hx hb htc inX10 hown hV.1 hR 0 rfl rfl 2 (by decide) (htc _ w_4_0) (fun _ h9 => h9) rfl dX10_makesTree_93 ?_
              refine lv_iload hx hb dX10_makesTree_96 (lv_at hl 3 rfl) ?_
              refine lv_iconst (v := 1) hx hb dX10_makesTree_98 (by decide) ?_
              refine lv_isub hx hb dX10_makesTree_99 ?_
              refine lv_iload hx hb dX10_makesTree_100 (lv_at hl 5 rfl) ?_
              refine lv_isub hx hb dX10_makesTree_102 ?_
              refine va_lald hx hb hV.1 hR 1 1 rfl rfl hg4 dX10_makesTree_103 ?_
              refine lv_lmul hx hb dX10_makesTree_104 ?_
              refine lv_lsub hx hb dX10_makesTree_105 ?_
              refine lv_lstore (lv' := [(6, .long (b57_l6 - ((c_this_catalan b57_l8.toNatClampNeg) * (c_this_catalan (((b24_c_this_stackOne (b24_l3 + (-1)).toNatClampNeg) - (1 : Int32)) - b57_l8).toNatClampNeg)))), (0, .ref a_this), (3, .int (b24_l3 + (-1))), (4, .int b24_l4), (5, .int (b24_c_this_stackOne (b24_l3 + (-1)).toNatClampNeg)), (8, .int b57_l8)]) hx hb dX10_makesTree_106 hl (by decide) rfl (fun ls hl => ?_)
              refine lv_iinc (v := (b57_l8 + 1)) (lv' := [(8, .int (b57_l8 + 1)), (6, .long (b57_l6 - ((c_this_catalan b57_l8.toNatClampNeg) * (c_this_catalan (((b24_c_this_stackOne (b24_l3 + (-1)).toNatClampNeg) - (1 : Int32)) - b57_l8).toNatClampNeg)))), (0, .ref a_this), (3, .int (b24_l3 + (-1))), (4, .int b24_l4), (5, .int (b24_c_this_stackOne (b24_l3 + (-1)).toNatClampNeg))]) hx hb dX10_makesTree_108 hl (k := 5) rfl rfl (by decide) rfl (fun ls hl => ?_)
              refine lv_goto (tgt := 57) hx hb dX10_makesTree_111 (by decide) ?_
              exact ih57 (b57_l6 - ((c_this_catalan b57_l8.toNatClampNeg) * (c_this_catalan (((b24_c_this_stackOne (b24_l3 + (-1)).toNatClampNeg) - (1 : Int32)) - b57_l8).toNatClampNeg))) (b57_l8 + 1) h _ _ hP hD hS _ (lv_sub hl [2, 3, 4, 5, 1, 0] rfl)
        exact L57 FU (b24_c_this_stackLong (b24_l3 + (-1)).toNatClampNeg) (0 : Int32) h _ _ hP hD hS _ (lv_sub hl [4, 3, 5, 2, 1, 0] rfl)
  exact L24 FU (1 : Int32) (0 : Int32) c_this_made (vp_updL c_this_stackLong 0 v_p1) (upd c_this_stackOne 0 (c_this_of 0)) h _ _ hP hD hS _ (lv_sub hl [2, 1, 0] rfl)
set_option maxHeartbeats 4000000 in
set_option maxRecDepth 100000 in
theorem mtX10_makesPartition (l : Launch) (D : va_G) (cI cJ cO : ClassId) (PL : va_W) (sz : Nat) (a_this : Nat) (a_this_chosen : Nat) (a_this_factorial : Nat) (a_this_catalan : Nat) (a_this_parted : Nat) (a_this_closed : Nat) (f_this_now : Int32) (a_this_of : Nat) (a_this_buffer : Nat) (a_this_made : Nat) (a_this_stackOne : Nat) (a_this_stackOther : Nat) (a_this_stackLong : Nat) (a_this_left : Nat) (f_this_entryMany : Int32) (a_this_entryFamily : Nat) (a_this_entryOf : Nat) (a_this_entryRank : Nat) (c_this_made : Nat → Int32) (c_this_of : Nat → Int32) (c_this_parted : Nat → Int64) (v_p1 : Int64) (r0 : (Nat → Int32)) (h : fX10_makesPartition c_this_made c_this_of c_this_parted v_p1 = some r0) : Met l yX10_makesPartition (rk_w yX10_makesPartition cX10_makesPartition 8 none) rmX10_makesPartition (va_Pc [.ref a_this, .long v_p1] (rk_B D (rk_TY cI cJ cO) [(a_this_made, .inl (cI, 60, .inl c_this_made))] [(a_this, .inr (9, [.ref a_this_chosen, .ref a_this_factorial, .ref a_this_catalan, .ref a_this_parted, .ref a_this_closed, .int f_this_now, .ref a_this_of, .ref a_this_buffer, .ref a_this_made, .ref a_this_stackOne, .ref a_this_stackOther, .ref a_this_stackLong, .ref a_this_left, .int f_this_entryMany, .ref a_this_entryFamily, .ref a_this_entryOf, .ref a_this_entryRank])), (a_this_of, .inl (cI, 4, .inl c_this_of)), (a_this_parted, .inl (cJ, 3721, .inr (.inl c_this_parted)))] PL sz)) (rk_Qv D [(a_this_made, .inl (cI, 60, .inl r0))] [(a_this_made, .inl (cI, 60, .inl c_this_made))] sz) 0 0 (va_A [(a_this_made, .inl (cI, 60, .inl c_this_made))] sz) := by
  refine rk_metv h (fun x => [(a_this_made, .inl (cI, 60, .inl x))]) (by decide) (Nat.le_of_ble_eq_true rfl) ?_
  intro p e s m args below meth c A ls Q hret hname hF hP hD hA hV hR0 hn hPL hnl hl h hS
  have hx := hF.1
  have hb := hF.2.1
  have hml := hF.2.2.1
  have hown : s.vm.findClass RX10 = some m.cls := hF.2.2.2.1
  have htc := hF.2.2.2.2
  have hP : va_P D vwCl [(a_this_made, .inl (cI, 60, .inl c_this_made))] s.heap := hP
  have hD : va_D A [(a_this_made, .inl (cI, 60, .inl c_this_made))] := hD
  have hR0 : va_P D vwCl [(a_this, .inr (9, [.ref a_this_chosen, .ref a_this_factorial, .ref a_this_catalan, .ref a_this_parted, .ref a_this_closed, .int f_this_now, .ref a_this_of, .ref a_this_buffer, .ref a_this_made, .ref a_this_stackOne, .ref a_this_stackOther, .ref a_this_stackLong, .ref a_this_left, .int f_this_entryMany, .ref a_this_entryFamily, .ref a_this_entryOf, .ref a_this_entryRank])), (a_this_of, .inl (cI, 4, .inl c_this_of)), (a_this_parted, .inl (cJ, 3721, .inr (.inl c_this_parted)))] s.heap := hR0
  have hR := hR0
  have hl : lv_has ls 8 [(0, .ref a_this), (1, .long v_p1)] := hl
  unfold fX10_makesPartition at h
  refine lv_lload_n hx hb dX10_makesPartition_0 rfl (lv_at hl 1 rfl) ?_
  refine lv_lstore_n (lv' := [(3, .long v_p1), (0, .ref a_this), (1, .long v_p1)]) hx hb dX10_makesPartition_1 rfl hl (by decide) rfl (fun ls hl => ?_)
  refine lv_aload_n hx hb dX10_makesPartition_2 rfl (lv_at hl 1 rfl) ?_
  refine va_get (D := D) (ci := 9) (v := .ref a_this_of) (C := RX10) (T := TX10) (N := 17) hx hb htc inX10 hown hV.1 hR 0 rfl rfl 6 (by decide) (htc _ w_4_4) (fun _ h9 => h9) rfl dX10_makesPartition_3 ?_
  refine lv_iconst (v := 0) hx hb dX10_makesPartition_6 (by decide) ?_
  refine va_iald hx hb hV.1 hR 1 0 rfl rfl (show vp_in (0 : Int32) 4 from (by decide : ¬ ((0 : Int32) < 0 ∨ 4 ≤ (0 : Int32).toNatClampNeg))) dX10_makesPartition_7 ?_
  refine W.eq (g2 := F0 m 8 ls [.int (c_this_of 0)]) rfl ?_
  refine lv_istore (lv' := [(5, .int (c_this_of 0)), (3, .long v_p1), (0, .ref a_this), (1, .long v_p1)]) hx hb dX10_makesPartition_8 hl (by decide) rfl (fun ls hl => ?_)
  refine lv_iconst (v := 0) hx hb dX10_makesPartition_10 (by decide) ?_
  refine lv_istore (lv' := [(6, .int (0 : Int32)), (5, .int (c_this_of 0)), (3, .long v_p1), (0, .ref a_this), (1, .long v_p1)]) hx hb dX10_makesPartition_11 hl (by decide) rfl (fun ls hl => ?_)
  have L13 : ∀ (n13 : Nat) (b13_l3 : Int64) (b13_l5 : Int32) (b13_l6 : Int32) (b13_c_this_made : Nat → Int32), rk_it4 (fX10_makesPartition_L13 c_this_of c_this_parted) n13 b13_l3 b13_l5 b13_l6 b13_c_this_made = some r0 → ∀ (H : Heap) (locs : List Loc), va_P D vwCl [(a_this_made, .inl (cI, 60, .inl b13_c_this_made))] H → va_D A [(a_this_made, .inl (cI, 60, .inl b13_c_this_made))] → va_S A s.heap H locs → ∀ (ls : Array Slot), lv_has ls 8 [(0, .ref a_this), (3, .long b13_l3), (5, .int b13_l5), (6, .int b13_l6)] → W p l e rmX10_makesPartition s m args below meth c H locs 0 0 Q (F0 m 13 ls []) := by
    intro n13
    induction n13 with
    | zero => intro b13_l3 b13_l5 b13_l6 b13_c_this_made h; exact rk_no h
    | succ n13 ih13 =>
      intro b13_l3 b13_l5 b13_l6 b13_c_this_made h H locs hP hD hS ls hl
      have h : fX10_makesPartition_L13 c_this_of c_this_parted (rk_it4 (fX10_makesPartition_L13 c_this_of c_this_parted) n13) b13_l3 b13_l5 b13_l6 b13_c_this_made = some r0 := h
      unfold fX10_makesPartition_L13 at h
      have hR := rk_keep hR0 hn hS
      refine lv_iload hx hb dX10_makesPartition_13 (lv_at hl 3 rfl) ?_
      refine lv_aload_n hx hb dX10_makesPartition_15 rfl (lv_at hl 0 rfl) ?_
      refine va_get (D := D) (ci := 9) (v := .ref a_this_of) (C := RX10) (T := TX10) (N := 17) hx hb htc inX10 hown hV.1 hR 0 rfl rfl 6 (by decide) (htc _ w_4_4) (fun _ h9 => h9) rfl dX10_makesPartition_16 ?_
      refine lv_iconst (v := 0) hx hb dX10_makesPartition_19 (by decide) ?_
      refine va_iald hx hb hV.1 hR 1 0 rfl rfl (show vp_in (0 : Int32) 4 from (by decide : ¬ ((0 : Int32) < 0 ∨ 4 ≤ (0 : Int32).toNatClampNeg))) dX10_makesPartition_20 ?_
      refine W.eq (g2 := F0 m 21 ls [.int (c_this_of 0), .int b13_l6]) rfl ?_
      refine lv_icmp_ge (tgt := 95) hx hb dX10_makesPartition_21 (by decide) (fun hc1 => ?_) (fun hc1 => ?_)
      · have h := rk_if hc1 h
        exact hret b13_c_this_made _ _ _ _ h dX10_makesPartition_95 hP hD hS
      · have h := rk_nif hc1 h
        refine lv_iconst (v := 0) hx hb dX10_makesPartition_24 (by decide) ?_
        refine lv_istore (lv' := [(7, .int (0 : Int32)), (0, .ref a_this), (3, .long b13_l3), (5, .int b13_l5), (6, .int b13_l6)]) hx hb dX10_makesPartition_25 hl (by decide) rfl (fun ls hl => ?_)
        have L27 : ∀ (n27 : Nat) (b27_l3 : Int64) (b27_l7 : Int32), rk_it2 (fX10_makesPartition_L27 c_this_parted b13_l5 b13_l6 b13_c_this_made (rk_it4 (fX10_makesPartition_L13 c_this_of c_this_parted) n13)) n27 b27_l3 b27_l7 = some r0 → ∀ (H : Heap) (locs : List Loc), va_P D vwCl [(a_this_made, .inl (cI, 60, .inl b13_c_this_made))] H → va_D A [(a_this_made, .inl (cI, 60, .inl b13_c_this_made))] → va_S A s.heap H locs → ∀ (ls : Array Slot), lv_has ls 8 [(0, .ref a_this), (3, .long b27_l3), (5, .int b13_l5), (6, .int b13_l6), (7, .int b27_l7)] → W p l e rmX10_makesPartition s m args below meth c H locs 0 0 Q (F0 m 27 ls []) := by
          intro n27
          induction n27 with
          | zero => intro b27_l3 b27_l7 h; exact rk_no h
          | succ n27 ih27 =>
            intro b27_l3 b27_l7 h H locs hP hD hS ls hl
            have h : fX10_makesPartition_L27 c_this_parted b13_l5 b13_l6 b13_c_this_made (rk_it4 (fX10_makesPartition_L13 c_this_of c_this_parted) n13) (rk_it2 (fX10_makesPartition_L27 c_this_parted b13_l5 b13_l6 b13_c_this_made (rk_it4 (fX10_makesPartition_L13 c_this_of c_this_parted) n13)) n27) b27_l3 b27_l7 = some r0 := h
            unfold fX10_makesPartition_L27 at h
            have hR := rk_keep hR0 hn hS
            refine lv_lload_n hx hb dX10_makesPartition_27 rfl (lv_at hl 1 rfl) ?_
            refine lv_aload_n hx hb dX10_makesPartition_28 rfl (lv_at hl 0 rfl) ?_
            refine va_get (D := D) (ci := 9) (v := .ref a_this_parted) (C := RX10) (T := TX10) (N := 17) hx hb htc inX10 hown hV.1 hR 0 rfl rfl 3 (by decide) (htc _ w_4_1) (fun _ h9 => h9) rfl dX10_makesPartition_29 ?_
            refine lv_bipush (v := 61) hx hb dX10_makesPartition_32 (by decide) ?_
            refine lv_iload hx hb dX10_makesPartition_34 (lv_at hl 4 rfl) ?_
            refine lv_imul hx hb dX10_makesPartition_36 ?_
            refine lv_iload hx hb dX10_makesPartition_37 (lv_at hl 2 rfl) ?_
            refine lv_iadd hx hb dX10_makesPartition_39 ?_
            refine lv_iload hx hb dX10_makesPartition_40 (lv_at hl 4 rfl) ?_
            refine lv_isub hx hb dX10_makesPartition_42 ?_
            obtain ⟨hg2, h⟩ := rk_gd h
            refine va_lald hx hb hV.1 hR 2 1 rfl rfl hg2 dX10_makesPartition_43 ?_
            refine rk_lclt (tgt := 73) hx hb dX10_makesPartition_44 dX10_makesPartition_45 (by decide) (fun hc3 => ?_) (fun hc3 => ?_)
            · have h := rk_if hc3 h
              refine lv_aload_n hx hb dX10_makesPartition_73 rfl (lv_at hl 0 rfl) ?_
              refine va_get (D := D) (ci := 9) (v := .ref a_this_made) (C := RX10) (T := TX10) (N := 17) hx hb htc inX10 hown hV.1 hR 0 rfl rfl 8 (by decide) (htc _ w_4_6) (fun _ h9 => h9) rfl dX10_makesPartition_74 ?_
              refine lv_iload hx hb dX10_makesPartition_77 (lv_at hl 3 rfl) ?_
              refine lv_iload hx hb dX10_makesPartition_79 (lv_at hl 4 rfl) ?_
              obtain ⟨hg4, h⟩ := rk_gd h
              refine va_iast hx hb hV.1 hP hD hS 0 0 rfl rfl hg4 dX10_makesPartition_81 (fun H locs hP hD hS => ?_)
              have hP : va_P D vwCl [(a_this_made, .inl (cI, 60, .inl (upd b13_c_this_made b13_l6.toNatClampNeg b27_l7)))] H := hP
              have hD : va_D A [(a_this_made, .inl (cI, 60, .inl (upd b13_c_this_made b13_l6.toNatClampNeg b27_l7)))] := hD
              have hR := rk_keep hR0 hn hS
              refine lv_iload hx hb dX10_makesPartition_82 (lv_at hl 2 rfl) ?_
              refine lv_iload hx hb dX10_makesPartition_84 (lv_at hl 4 rfl) ?_
              refine lv_isub hx hb dX10_makesPartition_86 ?_
              refine lv_istore (lv' := [(5, .int (b13_l5 - b27_l7)), (0, .ref a_this), (3, .long b27_l3), (6, .int b13_l6), (7, .int b27_l7)]) hx hb dX10_makesPartition_87 hl (by decide) rfl (fun ls hl => ?_)
              refine lv_iinc (v := (b13_l6 + 1)) (lv' := [(6, .int (b13_l6 + 1)), (5, .int (b13_l5 - b27_l7)), (0, .ref a_this), (3, .long b27_l3), (7, .int b27_l7)]) hx hb dX10_makesPartition_89 hl (k := 3) rfl rfl (by decide) rfl (fun ls hl => ?_)
              refine lv_goto (tgt := 13) hx hb dX10_makesPartition_92 (by decide) ?_
              exact ih13 b27_l3 (b13_l5 - b27_l7) (b13_l6 + 1) (upd b13_c_this_made b13_l6.toNatClampNeg b27_l7) h _ _ hP hD hS _ (lv_sub hl [2, 3, 1, 0] rfl)
            · have h := rk_nif hc3 h
              refine lv_lload_n hx hb dX10_makesPartition_48 rfl (lv_at hl 1 rfl) ?_
              refine lv_aload_n hx hb dX10_makesPartition_49 rfl (lv_at hl 0 rfl) ?_
              refine va_get (D := D) (ci := 9) (v := .ref a_this_parted) (C := RX10) (T := TX10) (N := 17) hx hb htc inX10 hown hV.1 hR 0 rfl rfl 3 (by decide) (htc _ w_4_1) (fun _ h9 => h9) rfl dX10_makesPartition_50 ?_
              refine lv_bipush (v := 61) hx hb dX10_makesPartition_53 (by decide) ?_
              refine lv_iload hx hb dX10_makesPartition_55 (lv_at hl 4 rfl) ?_
              refine lv_imul hx hb dX10_makesPartition_57 ?_
              refine lv_iload hx hb dX10_makesPartition_58 (lv_at hl 2 rfl) ?_
              refine lv_iadd hx hb dX10_makesPartition_60 ?_
              refine lv_iload hx hb dX10_makesPartition_61 (lv_at hl 4 rfl) ?_
              refine lv_isub hx hb dX10_makesPartition_63 ?_
              refine va_lald hx hb hV.1 hR 2 1 rfl rfl hg2 dX10_makesPartition_64 ?_
              refine lv_lsub hx hb dX10_makesPartition_65 ?_
              refine lv_lstore_n (lv' := [(3, .long (b27_l3 - (c_this_parted ((((61 : Int32) * b27_l7) + b13_l5) - b27_l7).toNatClampNeg))), (0, .ref a_this), (5, .int b13_l5), (6, .int b13_l6), (7, .int b27_l7)]) hx hb dX10_makesPartition_66 rfl hl (by decide) rfl (fun ls hl => ?_)
              refine lv_iinc (v := (b27_l7 + 1)) (lv' := [(7, .int (b27_l7 + 1)), (3, .long (b27_l3 - (c_this_parted ((((61 : Int32) * b27_l7) + b13_l5) - b27_l7).toNatClampNeg))), (0, .ref a_this), (5, .int b13_l5), (6, .int b13_l6)]) hx hb dX10_makesPartition_67 hl (k := 4) rfl rfl (by decide) rfl (fun ls hl => ?_)
              refine lv_goto (tgt := 27) hx hb dX10_makesPartition_70 (by decide) ?_
              exact ih27 (b27_l3 - (c_this_parted ((((61 : Int32) * b27_l7) + b13_l5) - b27_l7).toNatClampNeg)) (b27_l7 + 1) h _ _ hP hD hS _ (lv_sub hl [2, 1, 3, 4, 0] rfl)
        exact L27 FU b13_l3 (0 : Int32) h _ _ hP hD hS _ (lv_sub hl [1, 2, 3, 4, 0] rfl)
  exact L13 FU v_p1 (c_this_of 0) (0 : Int32) c_this_made h _ _ hP hD hS _ (lv_sub hl [3, 2, 1, 0] rfl)
set_option maxHeartbeats 4000000 in
set_option maxRecDepth 100000 in
theorem mtX10_leaveAll (l : Launch) (D : va_G) (cI cJ cO : ClassId) (PL : va_W) (sz : Nat) (a_this : Nat) (a_this_chosen : Nat) (a_this_factorial : Nat) (a_this_catalan : Nat) (a_this_parted : Nat) (a_this_closed : Nat) (f_this_now : Int32) (a_this_of : Nat) (a_this_buffer : Nat) (a_this_made : Nat) (a_this_stackOne : Nat) (a_this_stackOther : Nat) (a_this_stackLong : Nat) (a_this_left : Nat) (f_this_entryMany : Int32) (a_this_entryFamily : Nat) (a_this_entryOf : Nat) (a_this_entryRank : Nat) (c_this_left : Nat → Int32) (c_this_of : Nat → Int32) (r0 : (Nat → Int32)) (h : fX10_leaveAll c_this_left c_this_of = some r0) : Met l yX10_leaveAll (rk_w yX10_leaveAll cX10_leaveAll 2 none) rmX10_leaveAll (va_Pc [.ref a_this] (rk_B D (rk_TY cI cJ cO) [(a_this_left, .inl (cI, 4, .inl c_this_left))] [(a_this, .inr (9, [.ref a_this_chosen, .ref a_this_factorial, .ref a_this_catalan, .ref a_this_parted, .ref a_this_closed, .int f_this_now, .ref a_this_of, .ref a_this_buffer, .ref a_this_made, .ref a_this_stackOne, .ref a_this_stackOther, .ref a_this_stackLong, .ref a_this_left, .int f_this_entryMany, .ref a_this_entryFamily, .ref a_this_entryOf, .ref a_this_entryRank])), (a_this_of, .inl (cI, 4, .inl c_this_of))] PL sz)) (rk_Qv D [(a_this_left, .inl (cI, 4, .inl r0))] [(a_this_left, .inl (cI, 4, .inl c_this_left))] sz) 0 0 (va_A [(a_this_left, .inl (cI, 4, .inl c_this_left))] sz) := by
  refine rk_metv h (fun x => [(a_this_left, .inl (cI, 4, .inl x))]) (by decide) (Nat.le_of_ble_eq_true rfl) ?_
  intro p e s m args below meth c A ls Q hret hname hF hP hD hA hV hR0 hn hPL hnl hl h hS
  have hx := hF.1
  have hb := hF.2.1
  have hml := hF.2.2.1
  have hown : s.vm.findClass RX10 = some m.cls := hF.2.2.2.1
  have htc := hF.2.2.2.2
  have hP : va_P D vwCl [(a_this_left, .inl (cI, 4, .inl c_this_left))] s.heap := hP
  have hD : va_D A [(a_this_left, .inl (cI, 4, .inl c_this_left))] := hD
  have hR0 : va_P D vwCl [(a_this, .inr (9, [.ref a_this_chosen, .ref a_this_factorial, .ref a_this_catalan, .ref a_this_parted, .ref a_this_closed, .int f_this_now, .ref a_this_of, .ref a_this_buffer, .ref a_this_made, .ref a_this_stackOne, .ref a_this_stackOther, .ref a_this_stackLong, .ref a_this_left, .int f_this_entryMany, .ref a_this_entryFamily, .ref a_this_entryOf, .ref a_this_entryRank])), (a_this_of, .inl (cI, 4, .inl c_this_of))] s.heap := hR0
  have hR := hR0
  have hl : lv_has ls 2 [(0, .ref a_this)] := hl
  unfold fX10_leaveAll at h
  refine lv_iconst (v := 0) hx hb dX10_leaveAll_0 (by decide) ?_
  refine lv_istore_n (lv' := [(1, .int (0 : Int32)), (0, .ref a_this)]) hx hb dX10_leaveAll_1 rfl hl (by decide) rfl (fun ls hl => ?_)
  have L2 : ∀ (n2 : Nat) (b2_l1 : Int32) (b2_c_this_left : Nat → Int32), rk_it2 (fX10_leaveAll_L2 c_this_of) n2 b2_l1 b2_c_this_left = some r0 → ∀ (H : Heap) (locs : List Loc), va_P D vwCl [(a_this_left, .inl (cI, 4, .inl b2_c_this_left))] H → va_D A [(a_this_left, .inl (cI, 4, .inl b2_c_this_left))] → va_S A s.heap H locs → ∀ (ls : Array Slot), lv_has ls 2 [(0, .ref a_this), (1, .int b2_l1)] → W p l e rmX10_leaveAll s m args below meth c H locs 0 0 Q (F0 m 2 ls []) := by
    intro n2
    induction n2 with
    | zero => intro b2_l1 b2_c_this_left h; exact rk_no h
    | succ n2 ih2 =>
      intro b2_l1 b2_c_this_left h H locs hP hD hS ls hl
      have h : fX10_leaveAll_L2 c_this_of (rk_it2 (fX10_leaveAll_L2 c_this_of) n2) b2_l1 b2_c_this_left = some r0 := h
      unfold fX10_leaveAll_L2 at h
      have hR := rk_keep hR0 hn hS
      refine lv_iload_n hx hb dX10_leaveAll_2 rfl (lv_at hl 1 rfl) ?_
      refine lv_iconst (v := 4) hx hb dX10_leaveAll_3 (by decide) ?_
      refine lv_icmp_ge (tgt := 25) hx hb dX10_leaveAll_4 (by decide) (fun hc1 => ?_) (fun hc1 => ?_)
      · have h := rk_if hc1 h
        exact hret b2_c_this_left _ _ _ _ h dX10_leaveAll_25 hP hD hS
      · have h := rk_nif hc1 h
        refine lv_aload_n hx hb dX10_leaveAll_7 rfl (lv_at hl 0 rfl) ?_
        refine va_get (D := D) (ci := 9) (v := .ref a_this_left) (C := RX10) (T := TX10) (N := 17) hx hb htc inX10 hown hV.1 hR 0 rfl rfl 12 (by decide) (htc _ w_4_10) (fun _ h9 => h9) rfl dX10_leaveAll_8 ?_
        refine lv_iload_n hx hb dX10_leaveAll_11 rfl (lv_at hl 1 rfl) ?_
        refine lv_aload_n hx hb dX10_leaveAll_12 rfl (lv_at hl 0 rfl) ?_
        refine va_get (D := D) (ci := 9) (v := .ref a_this_of) (C := RX10) (T := TX10) (N := 17) hx hb htc inX10 hown hV.1 hR 0 rfl rfl 6 (by decide) (htc _ w_4_4) (fun _ h9 => h9) rfl dX10_leaveAll_13 ?_
        refine lv_iload_n hx hb dX10_leaveAll_16 rfl (lv_at hl 1 rfl) ?_
        obtain ⟨hg2, h⟩ := rk_gd h
        refine va_iald hx hb hV.1 hR 1 0 rfl rfl hg2 dX10_leaveAll_17 ?_
        refine va_iast hx hb hV.1 hP hD hS 0 0 rfl rfl hg2 dX10_leaveAll_18 (fun H locs hP hD hS => ?_)
        have hP : va_P D vwCl [(a_this_left, .inl (cI, 4, .inl (upd b2_c_this_left b2_l1.toNatClampNeg (c_this_of b2_l1.toNatClampNeg))))] H := hP
        have hD : va_D A [(a_this_left, .inl (cI, 4, .inl (upd b2_c_this_left b2_l1.toNatClampNeg (c_this_of b2_l1.toNatClampNeg))))] := hD
        have hR := rk_keep hR0 hn hS
        refine lv_iinc (v := (b2_l1 + 1)) (lv' := [(1, .int (b2_l1 + 1)), (0, .ref a_this)]) hx hb dX10_leaveAll_19 hl (k := 1) rfl rfl (by decide) rfl (fun ls hl => ?_)
        refine lv_goto (tgt := 2) hx hb dX10_leaveAll_22 (by decide) ?_
        exact ih2 (b2_l1 + 1) (upd b2_c_this_left b2_l1.toNatClampNeg (c_this_of b2_l1.toNatClampNeg)) h _ _ hP hD hS _ (lv_sub hl [1, 0] rfl)
  exact L2 FU (0 : Int32) c_this_left h _ _ hP hD hS _ (lv_sub hl [1, 0] rfl)
set_option maxHeartbeats 4000000 in
set_option maxRecDepth 100000 in
theorem mtX10_waysWithout (l : Launch) (D : va_G) (cI cJ cO : ClassId) (PL : va_W) (sz : Nat) (a_this : Nat) (a_this_chosen : Nat) (a_this_factorial : Nat) (a_this_catalan : Nat) (a_this_parted : Nat) (a_this_closed : Nat) (f_this_now : Int32) (a_this_of : Nat) (a_this_buffer : Nat) (a_this_made : Nat) (a_this_stackOne : Nat) (a_this_stackOther : Nat) (a_this_stackLong : Nat) (a_this_left : Nat) (f_this_entryMany : Int32) (a_this_entryFamily : Nat) (a_this_entryOf : Nat) (a_this_entryRank : Nat) (c_this_left : Nat → Int32) (c_this_chosen : Nat → Int64) (v_p1 : Int32) (r0 : Int64 × (Nat → Int32)) (h : fX10_waysWithout c_this_left c_this_chosen v_p1 = some r0) : Met l yX10_waysWithout (rk_w yX10_waysWithout cX10_waysWithout 4 (some .long)) rmX10_waysWithout (va_Pc [.ref a_this, .int v_p1] (rk_B D (rk_TY cI cJ cO) [(a_this_left, .inl (cI, 4, .inl c_this_left))] [(a_this, .inr (9, [.ref a_this_chosen, .ref a_this_factorial, .ref a_this_catalan, .ref a_this_parted, .ref a_this_closed, .int f_this_now, .ref a_this_of, .ref a_this_buffer, .ref a_this_made, .ref a_this_stackOne, .ref a_this_stackOther, .ref a_this_stackLong, .ref a_this_left, .int f_this_entryMany, .ref a_this_entryFamily, .ref a_this_entryOf, .ref a_this_entryRank])), (a_this_chosen, .inl (cJ, 3721, .inr (.inl c_this_chosen)))] PL sz)) (rk_Ql r0.1 D [(a_this_left, .inl (cI, 4, .inl r0.2))] [(a_this_left, .inl (cI, 4, .inl c_this_left))] sz) 0 0 (va_A [(a_this_left, .inl (cI, 4, .inl c_this_left))] sz) := by
  refine rk_metl h (fun x : Int64 × (Nat → Int32) => x.1) (fun x => [(a_this_left, .inl (cI, 4, .inl x.2))]) (by decide) (Nat.le_of_ble_eq_true rfl) ?_
  intro p e s m args below meth c A ls Q hret hname hF hP hD hA hV hR0 hn hPL hnl hl h hS
  have hx := hF.1
  have hb := hF.2.1
  have hml := hF.2.2.1
  have hown : s.vm.findClass RX10 = some m.cls := hF.2.2.2.1
  have htc := hF.2.2.2.2
  have hP : va_P D vwCl [(a_this_left, .inl (cI, 4, .inl c_this_left))] s.heap := hP
  have hD : va_D A [(a_this_left, .inl (cI, 4, .inl c_this_left))] := hD
  have hR0 : va_P D vwCl [(a_this, .inr (9, [.ref a_this_chosen, .ref a_this_factorial, .ref a_this_catalan, .ref a_this_parted, .ref a_this_closed, .int f_this_now, .ref a_this_of, .ref a_this_buffer, .ref a_this_made, .ref a_this_stackOne, .ref a_this_stackOther, .ref a_this_stackLong, .ref a_this_left, .int f_this_entryMany, .ref a_this_entryFamily, .ref a_this_entryOf, .ref a_this_entryRank])), (a_this_chosen, .inl (cJ, 3721, .inr (.inl c_this_chosen)))] s.heap := hR0
  have hR := hR0
  have hl : lv_has ls 4 [(0, .ref a_this), (1, .int v_p1)] := hl
  unfold fX10_waysWithout at h
  refine lv_aload_n hx hb dX10_waysWithout_0 rfl (lv_at hl 0 rfl) ?_
  refine va_get (D := D) (ci := 9) (v := .ref a_this_left) (C := RX10) (T := TX10) (N := 17) hx hb htc inX10 hown hV.1 hR 0 rfl rfl 12 (by decide) (htc _ w_4_10) (fun _ h9 => h9) rfl dX10_waysWithout_1 ?_
  refine lv_iload_n hx hb dX10_waysWithout_4 rfl (lv_at hl 1 rfl) ?_
  obtain ⟨hg1, h⟩ := rk_gd h
  refine va_iald hx hb hV.1 hP 0 0 rfl rfl hg1 dX10_waysWithout_5 ?_
  refine lv_if_ne (tgt := 11) hx hb dX10_waysWithout_6 (by decide) (fun hc2 => ?_) (fun hc2 => ?_)
  · have h := rk_if hc2 h
    refine lv_aload_n hx hb dX10_waysWithout_11 rfl (lv_at hl 0 rfl) ?_
    refine va_get (D := D) (ci := 9) (v := .ref a_this_left) (C := RX10) (T := TX10) (N := 17) hx hb htc inX10 hown hV.1 hR 0 rfl rfl 12 (by decide) (htc _ w_4_10) (fun _ h9 => h9) rfl dX10_waysWithout_12 ?_
    refine lv_iload_n hx hb dX10_waysWithout_15 rfl (lv_at hl 1 rfl) ?_
    refine lv_dup2_11 hx hb dX10_waysWithout_16 rfl rfl ?_
    refine va_iald hx hb hV.1 hP 0 0 rfl rfl hg1 dX10_waysWithout_17 ?_
    refine lv_iconst (v := 1) hx hb dX10_waysWithout_18 (by decide) ?_
    refine lv_isub hx hb dX10_waysWithout_19 ?_
    refine va_iast hx hb hV.1 hP hD hS 0 0 rfl rfl hg1 dX10_waysWithout_20 (fun H locs hP hD hS => ?_)
    have hP : va_P D vwCl [(a_this_left, .inl (cI, 4, .inl (upd c_this_left v_p1.toNatClampNeg ((c_this_left v_p1.toNatClampNeg) - (1 : Int32)))))] H := hP
    have hD : va_D A [(a_this_left, .inl (cI, 4, .inl (upd c_this_left v_p1.toNatClampNeg ((c_this_left v_p1.toNatClampNeg) - (1 : Int32)))))] := hD
    have hR := rk_keep hR0 hn hS
    refine lv_aload_n hx hb dX10_waysWithout_21 rfl (lv_at hl 0 rfl) ?_
    refine lv_aload_n hx hb dX10_waysWithout_22 rfl (lv_at hl 0 rfl) ?_
    refine va_get (D := D) (ci := 9) (v := .ref a_this_left) (C := RX10) (T := TX10) (N := 17) hx hb htc inX10 hown hV.1 hR 0 rfl rfl 12 (by decide) (htc _ w_4_10) (fun _ h9 => h9) rfl dX10_waysWithout_23 ?_
    refine lv_iconst (v := 0) hx hb dX10_waysWithout_26 (by decide) ?_
    refine va_iald hx hb hV.1 hP 0 0 rfl rfl (show vp_in (0 : Int32) 4 from (by decide : ¬ ((0 : Int32) < 0 ∨ 4 ≤ (0 : Int32).toNatClampNeg))) dX10_waysWithout_27 ?_
    refine W.eq (g2 := F0 m 28 ls [.int ((upd c_this_left v_p1.toNatClampNeg ((c_this_left v_p1.toNatClampNeg) - (1 : Int32))) 0), .ref a_this]) rfl ?_
    refine lv_aload_n hx hb dX10_waysWithout_28 rfl (lv_at hl 0 rfl) ?_
    refine va_get (D := D) (ci := 9) (v := .ref a_this_left) (C := RX10) (T := TX10) (N := 17) hx hb htc inX10 hown hV.1 hR 0 rfl rfl 12 (by decide) (htc _ w_4_10) (fun _ h9 => h9) rfl dX10_waysWithout_29 ?_
    refine lv_iconst (v := 1) hx hb dX10_waysWithout_32 (by decide) ?_
    refine va_iald hx hb hV.1 hP 0 0 rfl rfl (show vp_in (1 : Int32) 4 from (by decide : ¬ ((1 : Int32) < 0 ∨ 4 ≤ (1 : Int32).toNatClampNeg))) dX10_waysWithout_33 ?_
    refine W.eq (g2 := F0 m 34 ls [.int ((upd c_this_left v_p1.toNatClampNeg ((c_this_left v_p1.toNatClampNeg) - (1 : Int32))) 1), .int ((upd c_this_left v_p1.toNatClampNeg ((c_this_left v_p1.toNatClampNeg) - (1 : Int32))) 0), .ref a_this]) rfl ?_
    refine lv_aload_n hx hb dX10_waysWithout_34 rfl (lv_at hl 0 rfl) ?_
    refine va_get (D := D) (ci := 9) (v := .ref a_this_left) (C := RX10) (T := TX10) (N := 17) hx hb htc inX10 hown hV.1 hR 0 rfl rfl 12 (by decide) (htc _ w_4_10) (fun _ h9 => h9) rfl dX10_waysWithout_35 ?_
    refine lv_iconst (v := 2) hx hb dX10_waysWithout_38 (by decide) ?_
    refine va_iald hx hb hV.1 hP 0 0 rfl rfl (show vp_in (2 : Int32) 4 from (by decide : ¬ ((2 : Int32) < 0 ∨ 4 ≤ (2 : Int32).toNatClampNeg))) dX10_waysWithout_39 ?_
    refine W.eq (g2 := F0 m 40 ls [.int ((upd c_this_left v_p1.toNatClampNeg ((c_this_left v_p1.toNatClampNeg) - (1 : Int32))) 2), .int ((upd c_this_left v_p1.toNatClampNeg ((c_this_left v_p1.toNatClampNeg) - (1 : Int32))) 1), .int ((upd c_this_left v_p1.toNatClampNeg ((c_this_left v_p1.toNatClampNeg) - (1 : Int32))) 0), .ref a_this]) rfl ?_
    refine lv_aload_n hx hb dX10_waysWithout_40 rfl (lv_at hl 0 rfl) ?_
    refine va_get (D := D) (ci := 9) (v := .ref a_this_left) (C := RX10) (T := TX10) (N := 17) hx hb htc inX10 hown hV.1 hR 0 rfl rfl 12 (by decide) (htc _ w_4_10) (fun _ h9 => h9) rfl dX10_waysWithout_41 ?_
    refine lv_iconst (v := 3) hx hb dX10_waysWithout_44 (by decide) ?_
    refine va_iald hx hb hV.1 hP 0 0 rfl rfl (show vp_in (3 : Int32) 4 from (by decide : ¬ ((3 : Int32) < 0 ∨ 4 ≤ (3 : Int32).toNatClampNeg))) dX10_waysWithout_45 ?_
    refine W.eq (g2 := F0 m 46 ls [.int ((upd c_this_left v_p1.toNatClampNeg ((c_this_left v_p1.toNatClampNeg) - (1 : Int32))) 3), .int ((upd c_this_left v_p1.toNatClampNeg ((c_this_left v_p1.toNatClampNeg) - (1 : Int32))) 2), .int ((upd c_this_left v_p1.toNatClampNeg ((c_this_left v_p1.toNatClampNeg) - (1 : Int32))) 1), .int ((upd c_this_left v_p1.toNatClampNeg ((c_this_left v_p1.toNatClampNeg) - (1 : Int32))) 0), .ref a_this]) rfl ?_
    obtain ⟨r_46, hc_46, h⟩ := rk_bd h
    refine rk_l (wr := [(a_this_left, .inl (cI, 4, .inl (upd c_this_left v_p1.toNatClampNeg ((c_this_left v_p1.toNatClampNeg) - (1 : Int32)))))]) (va_runV (C := RX10) (As := [.int ((upd c_this_left v_p1.toNatClampNeg ((c_this_left v_p1.toNatClampNeg) - (1 : Int32))) 0), .int ((upd c_this_left v_p1.toNatClampNeg ((c_this_left v_p1.toNatClampNeg) - (1 : Int32))) 1), .int ((upd c_this_left v_p1.toNatClampNeg ((c_this_left v_p1.toNatClampNeg) - (1 : Int32))) 2), .int ((upd c_this_left v_p1.toNatClampNeg ((c_this_left v_p1.toNatClampNeg) - (1 : Int32))) 3)]) (rest := []) hF (mtX10_arranged l D cI cJ cO PL _ a_this a_this_chosen a_this_factorial a_this_catalan a_this_parted a_this_closed f_this_now a_this_of a_this_buffer a_this_made a_this_stackOne a_this_stackOther a_this_stackLong a_this_left f_this_entryMany a_this_entryFamily a_this_entryOf a_this_entryRank c_this_chosen ((upd c_this_left v_p1.toNatClampNeg ((c_this_left v_p1.toNatClampNeg) - (1 : Int32))) 0) ((upd c_this_left v_p1.toNatClampNeg ((c_this_left v_p1.toNatClampNeg) - (1 : Int32))) 1) ((upd c_this_left v_p1.toNatClampNeg ((c_this_left v_p1.toNatClampNeg) - (1 : Int32))) 2) ((upd c_this_left v_p1.toNatClampNeg ((c_this_left v_p1.toNatClampNeg) - (1 : Int32))) 3) r_46 hc_46) (cwV 4 htc (rk_gV w_4_119 w_4_121 ws_50 w_1_7 w_4_122) rfl rfl rfl (by decide +kernel) ⟨(Nat.le_of_ble_eq_true rfl), (Nat.le_of_ble_eq_true rfl)⟩) (rk_preV (va_recv hV.1 hR (ci := 9) (q0 := 0) rfl rfl) (rk_preS hP hD hS hR hn hPL hnl hV [] [(false, 0), (false, 1)] rfl (by decide) rfl (by decide))) rfl rfl hl.1 rfl (lv_room (Nat.le_of_ble_eq_true rfl)) dX10_waysWithout_46 ⟨(Nat.le_of_ble_eq_true rfl), (Nat.le_of_ble_eq_true rfl)⟩) hP hD hS hA hR0 hn [] [0] rfl rfl (by decide) (by decide) (fun H locs hP hD hS hR => ?_)
    have hP : va_P D vwCl [(a_this_left, .inl (cI, 4, .inl (upd c_this_left v_p1.toNatClampNeg ((c_this_left v_p1.toNatClampNeg) - (1 : Int32)))))] H := hP
    have hD : va_D A [(a_this_left, .inl (cI, 4, .inl (upd c_this_left v_p1.toNatClampNeg ((c_this_left v_p1.toNatClampNeg) - (1 : Int32)))))] := hD
    refine lv_lstore_n (lv' := [(2, .long r_46), (0, .ref a_this), (1, .int v_p1)]) hx hb dX10_waysWithout_49 rfl hl (by decide) rfl (fun ls hl => ?_)
    refine lv_aload_n hx hb dX10_waysWithout_50 rfl (lv_at hl 1 rfl) ?_
    refine va_get (D := D) (ci := 9) (v := .ref a_this_left) (C := RX10) (T := TX10) (N := 17) hx hb htc inX10 hown hV.1 hR 0 rfl rfl 12 (by decide) (htc _ w_4_10) (fun _ h9 => h9) rfl dX10_waysWithout_51 ?_
    refine lv_iload_n hx hb dX10_waysWithout_54 rfl (lv_at hl 2 rfl) ?_
    refine lv_dup2_11 hx hb dX10_waysWithout_55 rfl rfl ?_
    refine va_iald hx hb hV.1 hP 0 0 rfl rfl hg1 dX10_waysWithout_56 ?_
    refine lv_iconst (v := 1) hx hb dX10_waysWithout_57 (by decide) ?_
    refine lv_iadd hx hb dX10_waysWithout_58 ?_
    refine va_iast hx hb hV.1 hP hD hS 0 0 rfl rfl hg1 dX10_waysWithout_59 (fun H locs hP hD hS => ?_)
    have hP : va_P D vwCl [(a_this_left, .inl (cI, 4, .inl (upd (upd c_this_left v_p1.toNatClampNeg ((c_this_left v_p1.toNatClampNeg) - (1 : Int32))) v_p1.toNatClampNeg (((upd c_this_left v_p1.toNatClampNeg ((c_this_left v_p1.toNatClampNeg) - (1 : Int32))) v_p1.toNatClampNeg) + (1 : Int32)))))] H := hP
    have hD : va_D A [(a_this_left, .inl (cI, 4, .inl (upd (upd c_this_left v_p1.toNatClampNeg ((c_this_left v_p1.toNatClampNeg) - (1 : Int32))) v_p1.toNatClampNeg (((upd c_this_left v_p1.toNatClampNeg ((c_this_left v_p1.toNatClampNeg) - (1 : Int32))) v_p1.toNatClampNeg) + (1 : Int32)))))] := hD
    have hR := rk_keep hR0 hn hS
    refine lv_lload_n hx hb dX10_waysWithout_60 rfl (lv_at hl 0 rfl) ?_
    exact hret (r_46, (upd (upd c_this_left v_p1.toNatClampNeg ((c_this_left v_p1.toNatClampNeg) - (1 : Int32))) v_p1.toNatClampNeg (((upd c_this_left v_p1.toNatClampNeg ((c_this_left v_p1.toNatClampNeg) - (1 : Int32))) v_p1.toNatClampNeg) + (1 : Int32)))) _ _ _ _ h dX10_waysWithout_61 hP hD hS
  · have h := rk_nnif hc2 h
    refine lv_lconst (v := 0) hx hb dX10_waysWithout_9 (by decide) ?_
    exact hret ((0 : Int64), c_this_left) _ _ _ _ h dX10_waysWithout_10 hP hD hS
set_option maxHeartbeats 4000000 in
set_option maxRecDepth 100000 in
theorem mtX10_makesArrangement (l : Launch) (D : va_G) (cI cJ cO : ClassId) (PL : va_W) (sz : Nat) (a_this : Nat) (a_this_chosen : Nat) (a_this_factorial : Nat) (a_this_catalan : Nat) (a_this_parted : Nat) (a_this_closed : Nat) (f_this_now : Int32) (a_this_of : Nat) (a_this_buffer : Nat) (a_this_made : Nat) (a_this_stackOne : Nat) (a_this_stackOther : Nat) (a_this_stackLong : Nat) (a_this_left : Nat) (f_this_entryMany : Int32) (a_this_entryFamily : Nat) (a_this_entryOf : Nat) (a_this_entryRank : Nat) (c_this_left : Nat → Int32) (c_this_made : Nat → Int32) (c_this_chosen : Nat → Int64) (c_this_of : Nat → Int32) (v_p1 : Int64) (r0 : (Nat → Int32) × (Nat → Int32)) (h : fX10_makesArrangement f_this_now c_this_left c_this_made c_this_chosen c_this_of v_p1 = some r0) : Met l yX10_makesArrangement (rk_w yX10_makesArrangement cX10_makesArrangement 7 none) rmX10_makesArrangement (va_Pc [.ref a_this, .long v_p1] (rk_B D (rk_TY cI cJ cO) [(a_this_left, .inl (cI, 4, .inl c_this_left)), (a_this_made, .inl (cI, 60, .inl c_this_made))] [(a_this, .inr (9, [.ref a_this_chosen, .ref a_this_factorial, .ref a_this_catalan, .ref a_this_parted, .ref a_this_closed, .int f_this_now, .ref a_this_of, .ref a_this_buffer, .ref a_this_made, .ref a_this_stackOne, .ref a_this_stackOther, .ref a_this_stackLong, .ref a_this_left, .int f_this_entryMany, .ref a_this_entryFamily, .ref a_this_entryOf, .ref a_this_entryRank])), (a_this_chosen, .inl (cJ, 3721, .inr (.inl c_this_chosen))), (a_this_of, .inl (cI, 4, .inl c_this_of))] PL sz)) (rk_Qv D [(a_this_left, .inl (cI, 4, .inl r0.1)), (a_this_made, .inl (cI, 60, .inl r0.2))] [(a_this_left, .inl (cI, 4, .inl c_this_left)), (a_this_made, .inl (cI, 60, .inl c_this_made))] sz) 0 0 (va_A [(a_this_left, .inl (cI, 4, .inl c_this_left)), (a_this_made, .inl (cI, 60, .inl c_this_made))] sz) := by
  refine rk_metv h (fun x => [(a_this_left, .inl (cI, 4, .inl x.1)), (a_this_made, .inl (cI, 60, .inl x.2))]) (by decide) (Nat.le_of_ble_eq_true rfl) ?_
  intro p e s m args below meth c A ls Q hret hname hF hP hD hA hV hR0 hn hPL hnl hl h hS
  have hx := hF.1
  have hb := hF.2.1
  have hml := hF.2.2.1
  have hown : s.vm.findClass RX10 = some m.cls := hF.2.2.2.1
  have htc := hF.2.2.2.2
  have hP : va_P D vwCl [(a_this_left, .inl (cI, 4, .inl c_this_left)), (a_this_made, .inl (cI, 60, .inl c_this_made))] s.heap := hP
  have hD : va_D A [(a_this_left, .inl (cI, 4, .inl c_this_left)), (a_this_made, .inl (cI, 60, .inl c_this_made))] := hD
  have hR0 : va_P D vwCl [(a_this, .inr (9, [.ref a_this_chosen, .ref a_this_factorial, .ref a_this_catalan, .ref a_this_parted, .ref a_this_closed, .int f_this_now, .ref a_this_of, .ref a_this_buffer, .ref a_this_made, .ref a_this_stackOne, .ref a_this_stackOther, .ref a_this_stackLong, .ref a_this_left, .int f_this_entryMany, .ref a_this_entryFamily, .ref a_this_entryOf, .ref a_this_entryRank])), (a_this_chosen, .inl (cJ, 3721, .inr (.inl c_this_chosen))), (a_this_of, .inl (cI, 4, .inl c_this_of))] s.heap := hR0
  have hR := hR0
  have hl : lv_has ls 7 [(0, .ref a_this), (1, .long v_p1)] := hl
  unfold fX10_makesArrangement at h
  refine lv_lload_n hx hb dX10_makesArrangement_0 rfl (lv_at hl 1 rfl) ?_
  refine lv_lstore_n (lv' := [(3, .long v_p1), (0, .ref a_this), (1, .long v_p1)]) hx hb dX10_makesArrangement_1 rfl hl (by decide) rfl (fun ls hl => ?_)
  refine lv_aload_n hx hb dX10_makesArrangement_2 rfl (lv_at hl 1 rfl) ?_
  obtain ⟨r_3, hc_3, h⟩ := rk_bd h
  refine rk_v (wr := [(a_this_made, .inl (cI, 60, .inl c_this_made))]) (va_runV (C := RX10) (As := []) (rest := []) hF (mtX10_leaveAll l D cI cJ cO PL _ a_this a_this_chosen a_this_factorial a_this_catalan a_this_parted a_this_closed f_this_now a_this_of a_this_buffer a_this_made a_this_stackOne a_this_stackOther a_this_stackLong a_this_left f_this_entryMany a_this_entryFamily a_this_entryOf a_this_entryRank c_this_left c_this_of r_3 hc_3) (cwV 0 htc (rk_gV w_4_107 w_4_109 ws_47 w_1_7 w_4_110) rfl rfl rfl (by decide +kernel) ⟨(Nat.le_of_ble_eq_true rfl), (Nat.le_of_ble_eq_true rfl)⟩) (rk_preV (va_recv hV.1 hR (ci := 9) (q0 := 0) rfl rfl) (rk_preS hP hD hS hR hn hPL hnl hV [0] [(false, 0), (false, 2)] rfl (by decide) rfl (by decide))) rfl rfl hl.1 rfl (lv_room (Nat.le_of_ble_eq_true rfl)) dX10_makesArrangement_3 ⟨(Nat.le_of_ble_eq_true rfl), (Nat.le_of_ble_eq_true rfl)⟩) hP hD hS hA hR0 hn [0] [1] rfl rfl (by decide) (by decide) (fun H locs hP hD hS hR => ?_)
  have hP : va_P D vwCl [(a_this_made, .inl (cI, 60, .inl c_this_made)), (a_this_left, .inl (cI, 4, .inl r_3))] H := hP
  have hD : va_D A [(a_this_made, .inl (cI, 60, .inl c_this_made)), (a_this_left, .inl (cI, 4, .inl r_3))] := hD
  refine lv_iconst (v := 0) hx hb dX10_makesArrangement_6 (by decide) ?_
  refine lv_istore (lv' := [(5, .int (0 : Int32)), (3, .long v_p1), (0, .ref a_this), (1, .long v_p1)]) hx hb dX10_makesArrangement_7 hl (by decide) rfl (fun ls hl => ?_)
  have L9 : ∀ (n9 : Nat) (b9_l3 : Int64) (b9_l5 : Int32) (b9_c_this_left : Nat → Int32) (b9_c_this_made : Nat → Int32), rk_it4 (fX10_makesArrangement_L9 f_this_now c_this_chosen c_this_of) n9 b9_l3 b9_l5 b9_c_this_left b9_c_this_made = some r0 → ∀ (H : Heap) (locs : List Loc), va_P D vwCl [(a_this_made, .inl (cI, 60, .inl b9_c_this_made)), (a_this_left, .inl (cI, 4, .inl b9_c_this_left))] H → va_D A [(a_this_made, .inl (cI, 60, .inl b9_c_this_made)), (a_this_left, .inl (cI, 4, .inl b9_c_this_left))] → va_S A s.heap H locs → ∀ (ls : Array Slot), lv_has ls 7 [(0, .ref a_this), (3, .long b9_l3), (5, .int b9_l5)] → W p l e rmX10_makesArrangement s m args below meth c H locs 0 0 Q (F0 m 9 ls []) := by
    intro n9
    induction n9 with
    | zero => intro b9_l3 b9_l5 b9_c_this_left b9_c_this_made h; exact rk_no h
    | succ n9 ih9 =>
      intro b9_l3 b9_l5 b9_c_this_left b9_c_this_made h H locs hP hD hS ls hl
      have h : fX10_makesArrangement_L9 f_this_now c_this_chosen c_this_of (rk_it4 (fX10_makesArrangement_L9 f_this_now c_this_chosen c_this_of) n9) b9_l3 b9_l5 b9_c_this_left b9_c_this_made = some r0 := h
      unfold fX10_makesArrangement_L9 at h
      have hR := rk_keep hR0 hn hS
      refine lv_iload hx hb dX10_makesArrangement_9 (lv_at hl 2 rfl) ?_
      refine lv_aload_n hx hb dX10_makesArrangement_11 rfl (lv_at hl 0 rfl) ?_
      obtain ⟨r_12, hc_12, h⟩ := rk_bd h
      refine rk_i (wr := [(a_this_made, .inl (cI, 60, .inl b9_c_this_made)), (a_this_left, .inl (cI, 4, .inl b9_c_this_left))]) (va_runV (C := RX10) (As := []) (rest := [.int b9_l5]) hF (mtX10_longNow l D cI cJ cO PL _ a_this a_this_chosen a_this_factorial a_this_catalan a_this_parted a_this_closed f_this_now a_this_of a_this_buffer a_this_made a_this_stackOne a_this_stackOther a_this_stackLong a_this_left f_this_entryMany a_this_entryFamily a_this_entryOf a_this_entryRank c_this_of r_12 hc_12) (cwV 0 htc (rk_gV w_4_111 w_4_113 ws_48 w_1_7 w_4_114) rfl rfl rfl (by decide +kernel) ⟨(Nat.le_of_ble_eq_true rfl), (Nat.le_of_ble_eq_true rfl)⟩) (rk_preV (va_recv hV.1 hR (ci := 9) (q0 := 0) rfl rfl) (rk_preS hP hD hS hR hn hPL hnl hV [] [(false, 0), (false, 2)] rfl (by decide) rfl (by decide))) rfl rfl hl.1 rfl (lv_room (Nat.le_of_ble_eq_true rfl)) dX10_makesArrangement_12 ⟨(Nat.le_of_ble_eq_true rfl), (Nat.le_of_ble_eq_true rfl)⟩) hP hD hS hA hR0 hn [] [0, 1] rfl rfl (by decide) (by decide) (fun H locs hP hD hS hR => ?_)
      have hP : va_P D vwCl [(a_this_made, .inl (cI, 60, .inl b9_c_this_made)), (a_this_left, .inl (cI, 4, .inl b9_c_this_left))] H := hP
      have hD : va_D A [(a_this_made, .inl (cI, 60, .inl b9_c_this_made)), (a_this_left, .inl (cI, 4, .inl b9_c_this_left))] := hD
      refine lv_icmp_ge (tgt := 73) hx hb dX10_makesArrangement_15 (by decide) (fun hc1 => ?_) (fun hc1 => ?_)
      · have h := rk_if hc1 h
        exact hret (b9_c_this_left, b9_c_this_made) _ _ _ _ h dX10_makesArrangement_73 (hP.sub [1, 0] rfl) (hD.sub [1, 0] (by decide) rfl) hS
      · have h := rk_nif hc1 h
        refine lv_iconst (v := 0) hx hb dX10_makesArrangement_18 (by decide) ?_
        refine lv_istore (lv' := [(6, .int (0 : Int32)), (0, .ref a_this), (3, .long b9_l3), (5, .int b9_l5)]) hx hb dX10_makesArrangement_19 hl (by decide) rfl (fun ls hl => ?_)
        have L21 : ∀ (n21 : Nat) (b21_l3 : Int64) (b21_l6 : Int32) (b21_c_this_left : Nat → Int32), rk_it3 (fX10_makesArrangement_L21 c_this_chosen b9_l5 b9_c_this_made (rk_it4 (fX10_makesArrangement_L9 f_this_now c_this_chosen c_this_of) n9)) n21 b21_l3 b21_l6 b21_c_this_left = some r0 → ∀ (H : Heap) (locs : List Loc), va_P D vwCl [(a_this_made, .inl (cI, 60, .inl b9_c_this_made)), (a_this_left, .inl (cI, 4, .inl b21_c_this_left))] H → va_D A [(a_this_made, .inl (cI, 60, .inl b9_c_this_made)), (a_this_left, .inl (cI, 4, .inl b21_c_this_left))] → va_S A s.heap H locs → ∀ (ls : Array Slot), lv_has ls 7 [(0, .ref a_this), (3, .long b21_l3), (5, .int b9_l5), (6, .int b21_l6)] → W p l e rmX10_makesArrangement s m args below meth c H locs 0 0 Q (F0 m 21 ls []) := by
          intro n21
          induction n21 with
          | zero => intro b21_l3 b21_l6 b21_c_this_left h; exact rk_no h
          | succ n21 ih21 =>
            intro b21_l3 b21_l6 b21_c_this_left h H locs hP hD hS ls hl
            have h : fX10_makesArrangement_L21 c_this_chosen b9_l5 b9_c_this_made (rk_it4 (fX10_makesArrangement_L9 f_this_now c_this_chosen c_this_of) n9) (rk_it3 (fX10_makesArrangement_L21 c_this_chosen b9_l5 b9_c_this_made (rk_it4 (fX10_makesArrangement_L9 f_this_now c_this_chosen c_this_of) n9)) n21) b21_l3 b21_l6 b21_c_this_left = some r0 := h
            unfold fX10_makesArrangement_L21 at h
            have hR := rk_keep hR0 hn hS
            refine lv_lload_n hx hb dX10_makesArrangement_21 rfl (lv_at hl 1 rfl) ?_
            refine lv_aload_n hx hb dX10_makesArrangement_22 rfl (lv_at hl 0 rfl) ?_
            refine lv_iload hx hb dX10_makesArrangement_23 (lv_at hl 3 rfl) ?_
            obtain ⟨r_25, hc_25, h⟩ := rk_bd h
            refine rk_l (wr := [(a_this_made, .inl (cI, 60, .inl b9_c_this_made))]) (va_runV (C := RX10) (As := [.int b21_l6]) (rest := [.long b21_l3]) hF (mtX10_waysWithout l D cI cJ cO PL _ a_this a_this_chosen a_this_factorial a_this_catalan a_this_parted a_this_closed f_this_now a_this_of a_this_buffer a_this_made a_this_stackOne a_this_stackOther a_this_stackLong a_this_left f_this_entryMany a_this_entryFamily a_this_entryOf a_this_entryRank b21_c_this_left c_this_chosen b21_l6 r_25 hc_25) (cwV 1 htc (rk_gV w_4_115 w_4_117 ws_49 w_1_7 w_4_118) rfl rfl rfl (by decide +kernel) ⟨(Nat.le_of_ble_eq_true rfl), (Nat.le_of_ble_eq_true rfl)⟩) (rk_preV (va_recv hV.1 hR (ci := 9) (q0 := 0) rfl rfl) (rk_preS hP hD hS hR hn hPL hnl hV [1] [(false, 0), (false, 1)] rfl (by decide) rfl (by decide))) rfl rfl hl.1 rfl (lv_room (Nat.le_of_ble_eq_true rfl)) dX10_makesArrangement_25 ⟨(Nat.le_of_ble_eq_true rfl), (Nat.le_of_ble_eq_true rfl)⟩) hP hD hS hA hR0 hn [1] [0] rfl rfl (by decide) (by decide) (fun H locs hP hD hS hR => ?_)
            have hP : va_P D vwCl [(a_this_made, .inl (cI, 60, .inl b9_c_this_made)), (a_this_left, .inl (cI, 4, .inl r_25.2))] H := hP
            have hD : va_D A [(a_this_made, .inl (cI, 60, .inl b9_c_this_made)), (a_this_left, .inl (cI, 4, .inl r_25.2))] := hD
            refine rk_lclt (tgt := 47) hx hb dX10_makesArrangement_28 dX10_makesArrangement_29 (by decide) (fun hc2 => ?_) (fun hc2 => ?_)
            · have h := rk_if hc2 h
              refine lv_aload_n hx hb dX10_makesArrangement_47 rfl (lv_at hl 0 rfl) ?_
              refine va_get (D := D) (ci := 9) (v := .ref a_this_made) (C := RX10) (T := TX10) (N := 17) hx hb htc inX10 hown hV.1 hR 0 rfl rfl 8 (by decide) (htc _ w_4_6) (fun _ h9 => h9) rfl dX10_makesArrangement_48 ?_
              refine lv_iload hx hb dX10_makesArrangement_51 (lv_at hl 2 rfl) ?_
              refine lv_iload hx hb dX10_makesArrangement_53 (lv_at hl 3 rfl) ?_
              obtain ⟨hg3, h⟩ := rk_gd h
              refine va_iast hx hb hV.1 hP hD hS 0 0 rfl rfl hg3 dX10_makesArrangement_55 (fun H locs hP hD hS => ?_)
              have hP : va_P D vwCl [(a_this_made, .inl (cI, 60, .inl (upd b9_c_this_made b9_l5.toNatClampNeg b21_l6))), (a_this_left, .inl (cI, 4, .inl r_25.2))] H := hP
              have hD : va_D A [(a_this_made, .inl (cI, 60, .inl (upd b9_c_this_made b9_l5.toNatClampNeg b21_l6))), (a_this_left, .inl (cI, 4, .inl r_25.2))] := hD
              have hR := rk_keep hR0 hn hS
              refine lv_aload_n hx hb dX10_makesArrangement_56 rfl (lv_at hl 0 rfl) ?_
              refine va_get (D := D) (ci := 9) (v := .ref a_this_left) (C := RX10) (T := TX10) (N := 17) hx hb htc inX10 hown hV.1 hR 0 rfl rfl 12 (by decide) (htc _ w_4_10) (fun _ h9 => h9) rfl dX10_makesArrangement_57 ?_
              refine lv_iload hx hb dX10_makesArrangement_60 (lv_at hl 3 rfl) ?_
              refine lv_dup2_11 hx hb dX10_makesArrangement_62 rfl rfl ?_
              obtain ⟨hg4, h⟩ := rk_gd h
              refine va_iald hx hb hV.1 hP 1 0 rfl rfl hg4 dX10_makesArrangement_63 ?_
              refine lv_iconst (v := 1) hx hb dX10_makesArrangement_64 (by decide) ?_
              refine lv_isub hx hb dX10_makesArrangement_65 ?_
              refine va_iast hx hb hV.1 hP hD hS 1 0 rfl rfl hg4 dX10_makesArrangement_66 (fun H locs hP hD hS => ?_)
              have hP : va_P D vwCl [(a_this_made, .inl (cI, 60, .inl (upd b9_c_this_made b9_l5.toNatClampNeg b21_l6))), (a_this_left, .inl (cI, 4, .inl (upd r_25.2 b21_l6.toNatClampNeg ((r_25.2 b21_l6.toNatClampNeg) - (1 : Int32)))))] H := hP
              have hD : va_D A [(a_this_made, .inl (cI, 60, .inl (upd b9_c_this_made b9_l5.toNatClampNeg b21_l6))), (a_this_left, .inl (cI, 4, .inl (upd r_25.2 b21_l6.toNatClampNeg ((r_25.2 b21_l6.toNatClampNeg) - (1 : Int32)))))] := hD
              have hR := rk_keep hR0 hn hS
              refine lv_iinc (v := (b9_l5 + 1)) (lv' := [(5, .int (b9_l5 + 1)), (0, .ref a_this), (3, .long b21_l3), (6, .int b21_l6)]) hx hb dX10_makesArrangement_67 hl (k := 2) rfl rfl (by decide) rfl (fun ls hl => ?_)
              refine lv_goto (tgt := 9) hx hb dX10_makesArrangement_70 (by decide) ?_
              exact ih9 b21_l3 (b9_l5 + 1) (upd r_25.2 b21_l6.toNatClampNeg ((r_25.2 b21_l6.toNatClampNeg) - (1 : Int32))) (upd b9_c_this_made b9_l5.toNatClampNeg b21_l6) h _ _ hP hD hS _ (lv_sub hl [1, 2, 0] rfl)
            · have h := rk_nif hc2 h
              refine lv_lload_n hx hb dX10_makesArrangement_32 rfl (lv_at hl 1 rfl) ?_
              refine lv_aload_n hx hb dX10_makesArrangement_33 rfl (lv_at hl 0 rfl) ?_
              refine lv_iload hx hb dX10_makesArrangement_34 (lv_at hl 3 rfl) ?_
              obtain ⟨r_36, hc_36, h⟩ := rk_bd h
              refine rk_l (wr := [(a_this_made, .inl (cI, 60, .inl b9_c_this_made))]) (va_runV (C := RX10) (As := [.int b21_l6]) (rest := [.long b21_l3]) hF (mtX10_waysWithout l D cI cJ cO PL _ a_this a_this_chosen a_this_factorial a_this_catalan a_this_parted a_this_closed f_this_now a_this_of a_this_buffer a_this_made a_this_stackOne a_this_stackOther a_this_stackLong a_this_left f_this_entryMany a_this_entryFamily a_this_entryOf a_this_entryRank r_25.2 c_this_chosen b21_l6 r_36 hc_36) (cwV 1 htc (rk_gV w_4_115 w_4_117 ws_49 w_1_7 w_4_118) rfl rfl rfl (by decide +kernel) ⟨(Nat.le_of_ble_eq_true rfl), (Nat.le_of_ble_eq_true rfl)⟩) (rk_preV (va_recv hV.1 hR (ci := 9) (q0 := 0) rfl rfl) (rk_preS hP hD hS hR hn hPL hnl hV [1] [(false, 0), (false, 1)] rfl (by decide) rfl (by decide))) rfl rfl hl.1 rfl (lv_room (Nat.le_of_ble_eq_true rfl)) dX10_makesArrangement_36 ⟨(Nat.le_of_ble_eq_true rfl), (Nat.le_of_ble_eq_true rfl)⟩) hP hD hS hA hR0 hn [1] [0] rfl rfl (by decide) (by decide) (fun H locs hP hD hS hR => ?_)
              have hP : va_P D vwCl [(a_this_made, .inl (cI, 60, .inl b9_c_this_made)), (a_this_left, .inl (cI, 4, .inl r_36.2))] H := hP
              have hD : va_D A [(a_this_made, .inl (cI, 60, .inl b9_c_this_made)), (a_this_left, .inl (cI, 4, .inl r_36.2))] := hD
              refine lv_lsub hx hb dX10_makesArrangement_39 ?_
              refine lv_lstore_n (lv' := [(3, .long (b21_l3 - r_36.1)), (0, .ref a_this), (5, .int b9_l5), (6, .int b21_l6)]) hx hb dX10_makesArrangement_40 rfl hl (by decide) rfl (fun ls hl => ?_)
              refine lv_iinc (v := (b21_l6 + 1)) (lv' := [(6, .int (b21_l6 + 1)), (3, .long (b21_l3 - r_36.1)), (0, .ref a_this), (5, .int b9_l5)]) hx hb dX10_makesArrangement_41 hl (k := 3) rfl rfl (by decide) rfl (fun ls hl => ?_)
              refine lv_goto (tgt := 21) hx hb dX10_makesArrangement_44 (by decide) ?_
              exact ih21 (b21_l3 - r_36.1) (b21_l6 + 1) r_36.2 h _ _ hP hD hS _ (lv_sub hl [2, 1, 3, 0] rfl)
        exact L21 FU b9_l3 (0 : Int32) b9_c_this_left h _ _ hP hD hS _ (lv_sub hl [1, 2, 3, 0] rfl)
  exact L9 FU v_p1 (0 : Int32) r_3 c_this_made h _ _ hP hD hS _ (lv_sub hl [2, 1, 0] rfl)
set_option maxHeartbeats 4000000 in
set_option maxRecDepth 100000 in
theorem mtX10_makes (l : Launch) (D : va_G) (cI cJ cO : ClassId) (PL : va_W) (sz : Nat) (a_this : Nat) (a_this_chosen : Nat) (a_this_factorial : Nat) (a_this_catalan : Nat) (a_this_parted : Nat) (a_this_closed : Nat) (f_this_now : Int32) (a_this_of : Nat) (a_this_buffer : Nat) (a_this_made : Nat) (a_this_stackOne : Nat) (a_this_stackOther : Nat) (a_this_stackLong : Nat) (a_this_left : Nat) (f_this_entryMany : Int32) (a_this_entryFamily : Nat) (a_this_entryOf : Nat) (a_this_entryRank : Nat) (c_this_left : Nat → Int32) (c_this_made : Nat → Int32) (c_this_stackLong : Nat → Int64) (c_this_stackOne : Nat → Int32) (c_this_catalan : Nat → Int64) (c_this_chosen : Nat → Int64) (c_this_closed : Nat → Int64) (c_this_of : Nat → Int32) (c_this_parted : Nat → Int64) (v_p1 : Int64) (r0 : (Nat → Int32) × (Nat → Int32) × (Nat → Int64) × (Nat → Int32)) (h : fX10_makes f_this_now c_this_left c_this_made c_this_stackLong c_this_stackOne c_this_catalan c_this_chosen c_this_closed c_this_of c_this_parted v_p1 = some r0) : Met l yX10_makes (rk_w yX10_makes cX10_makes 3 none) rmX10_makes (va_Pc [.ref a_this, .long v_p1] (rk_B D (rk_TY cI cJ cO) [(a_this_left, .inl (cI, 4, .inl c_this_left)), (a_this_made, .inl (cI, 60, .inl c_this_made)), (a_this_stackLong, .inl (cJ, 64, .inr (.inl c_this_stackLong))), (a_this_stackOne, .inl (cI, 64, .inl c_this_stackOne))] [(a_this, .inr (9, [.ref a_this_chosen, .ref a_this_factorial, .ref a_this_catalan, .ref a_this_parted, .ref a_this_closed, .int f_this_now, .ref a_this_of, .ref a_this_buffer, .ref a_this_made, .ref a_this_stackOne, .ref a_this_stackOther, .ref a_this_stackLong, .ref a_this_left, .int f_this_entryMany, .ref a_this_entryFamily, .ref a_this_entryOf, .ref a_this_entryRank])), (a_this_catalan, .inl (cJ, 31, .inr (.inl c_this_catalan))), (a_this_chosen, .inl (cJ, 3721, .inr (.inl c_this_chosen))), (a_this_closed, .inl (cJ, 1722, .inr (.inl c_this_closed))), (a_this_of, .inl (cI, 4, .inl c_this_of)), (a_this_parted, .inl (cJ, 3721, .inr (.inl c_this_parted)))] PL sz)) (rk_Qv D [(a_this_left, .inl (cI, 4, .inl r0.1)), (a_this_made, .inl (cI, 60, .inl r0.2.1)), (a_this_stackLong, .inl (cJ, 64, .inr (.inl r0.2.2.1))), (a_this_stackOne, .inl (cI, 64, .inl r0.2.2.2))] [(a_this_left, .inl (cI, 4, .inl c_this_left)), (a_this_made, .inl (cI, 60, .inl c_this_made)), (a_this_stackLong, .inl (cJ, 64, .inr (.inl c_this_stackLong))), (a_this_stackOne, .inl (cI, 64, .inl c_this_stackOne))] sz) 0 0 (va_A [(a_this_left, .inl (cI, 4, .inl c_this_left)), (a_this_made, .inl (cI, 60, .inl c_this_made)), (a_this_stackLong, .inl (cJ, 64, .inr (.inl c_this_stackLong))), (a_this_stackOne, .inl (cI, 64, .inl c_this_stackOne))] sz) := by
  refine rk_metv h (fun x => [(a_this_left, .inl (cI, 4, .inl x.1)), (a_this_made, .inl (cI, 60, .inl x.2.1)), (a_this_stackLong, .inl (cJ, 64, .inr (.inl x.2.2.1))), (a_this_stackOne, .inl (cI, 64, .inl x.2.2.2))]) (by decide) (Nat.le_of_ble_eq_true rfl) ?_
  intro p e s m args below meth c A ls Q hret hname hF hP hD hA hV hR0 hn hPL hnl hl h hS
  have hx := hF.1
  have hb := hF.2.1
  have hml := hF.2.2.1
  have hown : s.vm.findClass RX10 = some m.cls := hF.2.2.2.1
  have htc := hF.2.2.2.2
  have hP : va_P D vwCl [(a_this_left, .inl (cI, 4, .inl c_this_left)), (a_this_made, .inl (cI, 60, .inl c_this_made)), (a_this_stackLong, .inl (cJ, 64, .inr (.inl c_this_stackLong))), (a_this_stackOne, .inl (cI, 64, .inl c_this_stackOne))] s.heap := hP
  have hD : va_D A [(a_this_left, .inl (cI, 4, .inl c_this_left)), (a_this_made, .inl (cI, 60, .inl c_this_made)), (a_this_stackLong, .inl (cJ, 64, .inr (.inl c_this_stackLong))), (a_this_stackOne, .inl (cI, 64, .inl c_this_stackOne))] := hD
  have hR0 : va_P D vwCl [(a_this, .inr (9, [.ref a_this_chosen, .ref a_this_factorial, .ref a_this_catalan, .ref a_this_parted, .ref a_this_closed, .int f_this_now, .ref a_this_of, .ref a_this_buffer, .ref a_this_made, .ref a_this_stackOne, .ref a_this_stackOther, .ref a_this_stackLong, .ref a_this_left, .int f_this_entryMany, .ref a_this_entryFamily, .ref a_this_entryOf, .ref a_this_entryRank])), (a_this_catalan, .inl (cJ, 31, .inr (.inl c_this_catalan))), (a_this_chosen, .inl (cJ, 3721, .inr (.inl c_this_chosen))), (a_this_closed, .inl (cJ, 1722, .inr (.inl c_this_closed))), (a_this_of, .inl (cI, 4, .inl c_this_of)), (a_this_parted, .inl (cJ, 3721, .inr (.inl c_this_parted)))] s.heap := hR0
  have hR := hR0
  have hl : lv_has ls 3 [(0, .ref a_this), (1, .long v_p1)] := hl
  unfold fX10_makes at h
  refine lv_aload_n hx hb dX10_makes_0 rfl (lv_at hl 0 rfl) ?_
  refine va_get (D := D) (ci := 9) (v := .int f_this_now) (C := RX10) (T := TX10) (N := 17) hx hb htc inX10 hown hV.1 hR 0 rfl rfl 5 (by decide) (htc _ w_4_3) (fun _ h9 => h9) rfl dX10_makes_1 ?_
  by_cases hk1 : f_this_now = 0
  · have h := rk_if hk1 h
    refine lv_tableIn (off := 36) (tgt := 40) hx hb dX10_makes_4 (by rw [hk1]; decide) (by rw [hk1]; decide) (by rw [hk1]; decide) (by decide) ?_
    refine lv_aload_n hx hb dX10_makes_40 rfl (lv_at hl 0 rfl) ?_
    refine lv_lload_n hx hb dX10_makes_41 rfl (lv_at hl 1 rfl) ?_
    obtain ⟨r_42, hc_42, h⟩ := rk_bd h
    refine rk_v (wr := [(a_this_left, .inl (cI, 4, .inl c_this_left)), (a_this_stackLong, .inl (cJ, 64, .inr (.inl c_this_stackLong))), (a_this_stackOne, .inl (cI, 64, .inl c_this_stackOne))]) (va_runV (C := RX10) (As := [.long v_p1]) (rest := []) hF (mtX10_makesSubset l D cI cJ cO PL _ a_this a_this_chosen a_this_factorial a_this_catalan a_this_parted a_this_closed f_this_now a_this_of a_this_buffer a_this_made a_this_stackOne a_this_stackOther a_this_stackLong a_this_left f_this_entryMany a_this_entryFamily a_this_entryOf a_this_entryRank c_this_made c_this_chosen c_this_of v_p1 r_42 hc_42) (cwV 1 htc (rk_gV w_4_71 w_4_73 ws_38 w_1_7 w_4_74) rfl rfl rfl (by decide +kernel) ⟨(Nat.le_of_ble_eq_true rfl), (Nat.le_of_ble_eq_true rfl)⟩) (rk_preV (va_recv hV.1 hR (ci := 9) (q0 := 0) rfl rfl) (rk_preS hP hD hS hR hn hPL hnl hV [1] [(false, 0), (false, 2), (false, 4)] rfl (by decide) rfl (by decide))) rfl rfl hl.1 rfl (lv_room (Nat.le_of_ble_eq_true rfl)) dX10_makes_42 ⟨(Nat.le_of_ble_eq_true rfl), (Nat.le_of_ble_eq_true rfl)⟩) hP hD hS hA hR0 hn [1] [0, 2, 3] rfl rfl (by decide) (by decide) (fun H locs hP hD hS hR => ?_)
    have hP : va_P D vwCl [(a_this_left, .inl (cI, 4, .inl c_this_left)), (a_this_stackLong, .inl (cJ, 64, .inr (.inl c_this_stackLong))), (a_this_stackOne, .inl (cI, 64, .inl c_this_stackOne)), (a_this_made, .inl (cI, 60, .inl r_42))] H := hP
    have hD : va_D A [(a_this_left, .inl (cI, 4, .inl c_this_left)), (a_this_stackLong, .inl (cJ, 64, .inr (.inl c_this_stackLong))), (a_this_stackOne, .inl (cI, 64, .inl c_this_stackOne)), (a_this_made, .inl (cI, 60, .inl r_42))] := hD
    refine lv_goto (tgt := 85) hx hb dX10_makes_45 (by decide) ?_
    exact hret (c_this_left, r_42, c_this_stackLong, c_this_stackOne) _ _ _ _ h dX10_makes_85 (hP.sub [0, 3, 1, 2] rfl) (hD.sub [0, 3, 1, 2] (by decide) rfl) hS
  have h := rk_nif hk1 h
  by_cases hk2 : f_this_now = 1
  · have h := rk_if hk2 h
    refine lv_tableIn (off := 44) (tgt := 48) hx hb dX10_makes_4 (by rw [hk2]; decide) (by rw [hk2]; decide) (by rw [hk2]; decide) (by decide) ?_
    refine lv_aload_n hx hb dX10_makes_48 rfl (lv_at hl 0 rfl) ?_
    refine lv_lload_n hx hb dX10_makes_49 rfl (lv_at hl 1 rfl) ?_
    obtain ⟨r_50, hc_50, h⟩ := rk_bd h
    refine rk_v (wr := [(a_this_left, .inl (cI, 4, .inl c_this_left)), (a_this_stackOne, .inl (cI, 64, .inl c_this_stackOne))]) (va_runV (C := RX10) (As := [.long v_p1]) (rest := []) hF (mtX10_makesPermutation l D cI cJ cO PL _ a_this a_this_chosen a_this_factorial a_this_catalan a_this_parted a_this_closed f_this_now a_this_of a_this_buffer a_this_made a_this_stackOne a_this_stackOther a_this_stackLong a_this_left f_this_entryMany a_this_entryFamily a_this_entryOf a_this_entryRank c_this_made c_this_stackLong c_this_of v_p1 r_50 hc_50) (cwV 1 htc (rk_gV w_4_79 w_4_81 ws_40 w_1_7 w_4_82) rfl rfl rfl (by decide +kernel) ⟨(Nat.le_of_ble_eq_true rfl), (Nat.le_of_ble_eq_true rfl)⟩) (rk_preV (va_recv hV.1 hR (ci := 9) (q0 := 0) rfl rfl) (rk_preS hP hD hS hR hn hPL hnl hV [1, 2] [(false, 0), (false, 4)] rfl (by decide) rfl (by decide))) rfl rfl hl.1 rfl (lv_room (Nat.le_of_ble_eq_true rfl)) dX10_makes_50 ⟨(Nat.le_of_ble_eq_true rfl), (Nat.le_of_ble_eq_true rfl)⟩) hP hD hS hA hR0 hn [1, 2] [0, 3] rfl rfl (by decide) (by decide) (fun H locs hP hD hS hR => ?_)
    have hP : va_P D vwCl [(a_this_left, .inl (cI, 4, .inl c_this_left)), (a_this_stackOne, .inl (cI, 64, .inl c_this_stackOne)), (a_this_made, .inl (cI, 60, .inl r_50.1)), (a_this_stackLong, .inl (cJ, 64, .inr (.inl r_50.2)))] H := hP
    have hD : va_D A [(a_this_left, .inl (cI, 4, .inl c_this_left)), (a_this_stackOne, .inl (cI, 64, .inl c_this_stackOne)), (a_this_made, .inl (cI, 60, .inl r_50.1)), (a_this_stackLong, .inl (cJ, 64, .inr (.inl r_50.2)))] := hD
    refine lv_goto (tgt := 85) hx hb dX10_makes_53 (by decide) ?_
    exact hret (c_this_left, r_50.1, r_50.2, c_this_stackOne) _ _ _ _ h dX10_makes_85 (hP.sub [0, 2, 3, 1] rfl) (hD.sub [0, 2, 3, 1] (by decide) rfl) hS
  have h := rk_nif hk2 h
  by_cases hk3 : f_this_now = 2
  · have h := rk_if hk3 h
    refine lv_tableIn (off := 52) (tgt := 56) hx hb dX10_makes_4 (by rw [hk3]; decide) (by rw [hk3]; decide) (by rw [hk3]; decide) (by decide) ?_
    refine lv_aload_n hx hb dX10_makes_56 rfl (lv_at hl 0 rfl) ?_
    refine lv_lload_n hx hb dX10_makes_57 rfl (lv_at hl 1 rfl) ?_
    obtain ⟨r_58, hc_58, h⟩ := rk_bd h
    refine rk_v (wr := [(a_this_left, .inl (cI, 4, .inl c_this_left)), (a_this_stackLong, .inl (cJ, 64, .inr (.inl c_this_stackLong)))]) (va_runV (C := RX10) (As := [.long v_p1]) (rest := []) hF (mtX10_makesWord l D cI cJ cO PL _ a_this a_this_chosen a_this_factorial a_this_catalan a_this_parted a_this_closed f_this_now a_this_of a_this_buffer a_this_made a_this_stackOne a_this_stackOther a_this_stackLong a_this_left f_this_entryMany a_this_entryFamily a_this_entryOf a_this_entryRank c_this_made c_this_stackOne c_this_closed c_this_of v_p1 r_58 hc_58) (cwV 1 htc (rk_gV w_4_87 w_4_89 ws_42 w_1_7 w_4_90) rfl rfl rfl (by decide +kernel) ⟨(Nat.le_of_ble_eq_true rfl), (Nat.le_of_ble_eq_true rfl)⟩) (rk_preV (va_recv hV.1 hR (ci := 9) (q0 := 0) rfl rfl) (rk_preS hP hD hS hR hn hPL hnl hV [1, 3] [(false, 0), (false, 3), (false, 4)] rfl (by decide) rfl (by decide))) rfl rfl hl.1 rfl (lv_room (Nat.le_of_ble_eq_true rfl)) dX10_makes_58 ⟨(Nat.le_of_ble_eq_true rfl), (Nat.le_of_ble_eq_true rfl)⟩) hP hD hS hA hR0 hn [1, 3] [0, 2] rfl rfl (by decide) (by decide) (fun H locs hP hD hS hR => ?_)
    have hP : va_P D vwCl [(a_this_left, .inl (cI, 4, .inl c_this_left)), (a_this_stackLong, .inl (cJ, 64, .inr (.inl c_this_stackLong))), (a_this_made, .inl (cI, 60, .inl r_58.1)), (a_this_stackOne, .inl (cI, 64, .inl r_58.2))] H := hP
    have hD : va_D A [(a_this_left, .inl (cI, 4, .inl c_this_left)), (a_this_stackLong, .inl (cJ, 64, .inr (.inl c_this_stackLong))), (a_this_made, .inl (cI, 60, .inl r_58.1)), (a_this_stackOne, .inl (cI, 64, .inl r_58.2))] := hD
    refine lv_goto (tgt := 85) hx hb dX10_makes_61 (by decide) ?_
    exact hret (c_this_left, r_58.1, c_this_stackLong, r_58.2) _ _ _ _ h dX10_makes_85 (hP.sub [0, 2, 1, 3] rfl) (hD.sub [0, 2, 1, 3] (by decide) rfl) hS
  have h := rk_nif hk3 h
  by_cases hk4 : f_this_now = 3
  · have h := rk_if hk4 h
    refine lv_tableIn (off := 60) (tgt := 64) hx hb dX10_makes_4 (by rw [hk4]; decide) (by rw [hk4]; decide) (by rw [hk4]; decide) (by decide) ?_
    refine lv_aload_n hx hb dX10_makes_64 rfl (lv_at hl 0 rfl) ?_
    refine lv_lload_n hx hb dX10_makes_65 rfl (lv_at hl 1 rfl) ?_
    obtain ⟨r_66, hc_66, h⟩ := rk_bd h
    refine rk_v (wr := [(a_this_left, .inl (cI, 4, .inl c_this_left))]) (va_runV (C := RX10) (As := [.long v_p1]) (rest := []) hF (mtX10_makesTree l D cI cJ cO PL _ a_this a_this_chosen a_this_factorial a_this_catalan a_this_parted a_this_closed f_this_now a_this_of a_this_buffer a_this_made a_this_stackOne a_this_stackOther a_this_stackLong a_this_left f_this_entryMany a_this_entryFamily a_this_entryOf a_this_entryRank c_this_made c_this_stackLong c_this_stackOne c_this_catalan c_this_of v_p1 r_66 hc_66) (cwV 1 htc (rk_gV w_4_95 w_4_97 ws_44 w_1_7 w_4_98) rfl rfl rfl (by decide +kernel) ⟨(Nat.le_of_ble_eq_true rfl), (Nat.le_of_ble_eq_true rfl)⟩) (rk_preV (va_recv hV.1 hR (ci := 9) (q0 := 0) rfl rfl) (rk_preS hP hD hS hR hn hPL hnl hV [1, 2, 3] [(false, 0), (false, 1), (false, 4)] rfl (by decide) rfl (by decide))) rfl rfl hl.1 rfl (lv_room (Nat.le_of_ble_eq_true rfl)) dX10_makes_66 ⟨(Nat.le_of_ble_eq_true rfl), (Nat.le_of_ble_eq_true rfl)⟩) hP hD hS hA hR0 hn [1, 2, 3] [0] rfl rfl (by decide) (by decide) (fun H locs hP hD hS hR => ?_)
    have hP : va_P D vwCl [(a_this_left, .inl (cI, 4, .inl c_this_left)), (a_this_made, .inl (cI, 60, .inl r_66.1)), (a_this_stackLong, .inl (cJ, 64, .inr (.inl r_66.2.1))), (a_this_stackOne, .inl (cI, 64, .inl r_66.2.2))] H := hP
    have hD : va_D A [(a_this_left, .inl (cI, 4, .inl c_this_left)), (a_this_made, .inl (cI, 60, .inl r_66.1)), (a_this_stackLong, .inl (cJ, 64, .inr (.inl r_66.2.1))), (a_this_stackOne, .inl (cI, 64, .inl r_66.2.2))] := hD
    refine lv_goto (tgt := 85) hx hb dX10_makes_69 (by decide) ?_
    exact hret (c_this_left, r_66.1, r_66.2.1, r_66.2.2) _ _ _ _ h dX10_makes_85 hP hD hS
  have h := rk_nif hk4 h
  by_cases hk5 : f_this_now = 4
  · have h := rk_if hk5 h
    refine lv_tableIn (off := 68) (tgt := 72) hx hb dX10_makes_4 (by rw [hk5]; decide) (by rw [hk5]; decide) (by rw [hk5]; decide) (by decide) ?_
    refine lv_aload_n hx hb dX10_makes_72 rfl (lv_at hl 0 rfl) ?_
    refine lv_lload_n hx hb dX10_makes_73 rfl (lv_at hl 1 rfl) ?_
    obtain ⟨r_74, hc_74, h⟩ := rk_bd h
    refine rk_v (wr := [(a_this_left, .inl (cI, 4, .inl c_this_left)), (a_this_stackLong, .inl (cJ, 64, .inr (.inl c_this_stackLong))), (a_this_stackOne, .inl (cI, 64, .inl c_this_stackOne))]) (va_runV (C := RX10) (As := [.long v_p1]) (rest := []) hF (mtX10_makesPartition l D cI cJ cO PL _ a_this a_this_chosen a_this_factorial a_this_catalan a_this_parted a_this_closed f_this_now a_this_of a_this_buffer a_this_made a_this_stackOne a_this_stackOther a_this_stackLong a_this_left f_this_entryMany a_this_entryFamily a_this_entryOf a_this_entryRank c_this_made c_this_of c_this_parted v_p1 r_74 hc_74) (cwV 1 htc (rk_gV w_4_99 w_4_101 ws_45 w_1_7 w_4_102) rfl rfl rfl (by decide +kernel) ⟨(Nat.le_of_ble_eq_true rfl), (Nat.le_of_ble_eq_true rfl)⟩) (rk_preV (va_recv hV.1 hR (ci := 9) (q0 := 0) rfl rfl) (rk_preS hP hD hS hR hn hPL hnl hV [1] [(false, 0), (false, 4), (false, 5)] rfl (by decide) rfl (by decide))) rfl rfl hl.1 rfl (lv_room (Nat.le_of_ble_eq_true rfl)) dX10_makes_74 ⟨(Nat.le_of_ble_eq_true rfl), (Nat.le_of_ble_eq_true rfl)⟩) hP hD hS hA hR0 hn [1] [0, 2, 3] rfl rfl (by decide) (by decide) (fun H locs hP hD hS hR => ?_)
    have hP : va_P D vwCl [(a_this_left, .inl (cI, 4, .inl c_this_left)), (a_this_stackLong, .inl (cJ, 64, .inr (.inl c_this_stackLong))), (a_this_stackOne, .inl (cI, 64, .inl c_this_stackOne)), (a_this_made, .inl (cI, 60, .inl r_74))] H := hP
    have hD : va_D A [(a_this_left, .inl (cI, 4, .inl c_this_left)), (a_this_stackLong, .inl (cJ, 64, .inr (.inl c_this_stackLong))), (a_this_stackOne, .inl (cI, 64, .inl c_this_stackOne)), (a_this_made, .inl (cI, 60, .inl r_74))] := hD
    refine lv_goto (tgt := 85) hx hb dX10_makes_77 (by decide) ?_
    exact hret (c_this_left, r_74, c_this_stackLong, c_this_stackOne) _ _ _ _ h dX10_makes_85 (hP.sub [0, 3, 1, 2] rfl) (hD.sub [0, 3, 1, 2] (by decide) rfl) hS
  have h := rk_nif hk5 h
  refine lv_tableOut (tgt := 80) hx hb dX10_makes_4 (rk_tb5 hk1 hk2 hk3 hk4 hk5) (by decide) ?_
  refine lv_aload_n hx hb dX10_makes_80 rfl (lv_at hl 0 rfl) ?_
  refine lv_lload_n hx hb dX10_makes_81 rfl (lv_at hl 1 rfl) ?_
  obtain ⟨r_82, hc_82, h⟩ := rk_bd h
  refine rk_v (wr := [(a_this_stackLong, .inl (cJ, 64, .inr (.inl c_this_stackLong))), (a_this_stackOne, .inl (cI, 64, .inl c_this_stackOne))]) (va_runV (C := RX10) (As := [.long v_p1]) (rest := []) hF (mtX10_makesArrangement l D cI cJ cO PL _ a_this a_this_chosen a_this_factorial a_this_catalan a_this_parted a_this_closed f_this_now a_this_of a_this_buffer a_this_made a_this_stackOne a_this_stackOther a_this_stackLong a_this_left f_this_entryMany a_this_entryFamily a_this_entryOf a_this_entryRank c_this_left c_this_made c_this_chosen c_this_of v_p1 r_82 hc_82) (cwV 1 htc (rk_gV w_4_103 w_4_105 ws_46 w_1_7 w_4_106) rfl rfl rfl (by decide +kernel) ⟨(Nat.le_of_ble_eq_true rfl), (Nat.le_of_ble_eq_true rfl)⟩) (rk_preV (va_recv hV.1 hR (ci := 9) (q0 := 0) rfl rfl) (rk_preS hP hD hS hR hn hPL hnl hV [0, 1] [(false, 0), (false, 2), (false, 4)] rfl (by decide) rfl (by decide))) rfl rfl hl.1 rfl (lv_room (Nat.le_of_ble_eq_true rfl)) dX10_makes_82 ⟨(Nat.le_of_ble_eq_true rfl), (Nat.le_of_ble_eq_true rfl)⟩) hP hD hS hA hR0 hn [0, 1] [2, 3] rfl rfl (by decide) (by decide) (fun H locs hP hD hS hR => ?_)
  have hP : va_P D vwCl [(a_this_stackLong, .inl (cJ, 64, .inr (.inl c_this_stackLong))), (a_this_stackOne, .inl (cI, 64, .inl c_this_stackOne)), (a_this_left, .inl (cI, 4, .inl r_82.1)), (a_this_made, .inl (cI, 60, .inl r_82.2))] H := hP
  have hD : va_D A [(a_this_stackLong, .inl (cJ, 64, .inr (.inl c_this_stackLong))), (a_this_stackOne, .inl (cI, 64, .inl c_this_stackOne)), (a_this_left, .inl (cI, 4, .inl r_82.1)), (a_this_made, .inl (cI, 60, .inl r_82.2))] := hD
  exact hret (r_82.1, r_82.2, c_this_stackLong, c_this_stackOne) _ _ _ _ h dX10_makes_85 (hP.sub [2, 3, 0, 1] rfl) (hD.sub [2, 3, 0, 1] (by decide) rfl) hS
