set_option maxHeartbeats 4000000 in
set_option maxRecDepth 100000 in
theorem mtX1_turn (l : Launch) (D : va_G) (cI cJ cO : ClassId) (PL : va_W) (sz : Nat) (a_p2 : Nat) (c_p2 : Nat → Int32) (a_this : Nat) (f_this_number : Int32) (f_this_width : Int32) (f_this_size : Int64) (f_this_zeros : Int32) (f_this_ones : Int32) (f_this_twos : Int32) (f_this_threes : Int32) (a_p1 : Nat) (c_p1 : Nat → Int32) (a_p3 : Nat) (a_p3_binomials : Nat) (a_p3_partitionCounts : Nat) (a_p3_treeCounts : Nat) (a_p3_sizes : Nat) (a_p3_starts : Nat) (a_p3_ranks : Nat) (a_p3_letters : Nat) (c_p3_sizes : Nat → Int32) (c_p3_starts : Nat → Int32) (r0 : (Nat → Int32) × (Nat → Int32) × (Nat → Int32)) (h : fX1_turn c_p2 f_this_width c_p1 c_p3_sizes c_p3_starts = some r0) : Met l yX1_turn (rk_w yX1_turn cX1_turn 5 none) rmX1_turn (va_Pc [.ref a_this, .ref a_p1, .ref a_p2, .ref a_p3] (rk_B D (rk_TY cI cJ cO) [(a_p2, .inl (cI, 60, .inl c_p2)), (a_p3_sizes, .inl (cI, 60, .inl c_p3_sizes)), (a_p3_starts, .inl (cI, 60, .inl c_p3_starts))] [(a_this, .inr (1, [.int f_this_number, .int f_this_width, .long f_this_size, .int f_this_zeros, .int f_this_ones, .int f_this_twos, .int f_this_threes])), (a_p1, .inl (cI, 60, .inl c_p1)), (a_p3, .inr (2, [.ref a_p3_binomials, .ref a_p3_partitionCounts, .ref a_p3_treeCounts, .ref a_p3_sizes, .ref a_p3_starts, .ref a_p3_ranks, .ref a_p3_letters]))] PL sz)) (rk_Qv D [(a_p2, .inl (cI, 60, .inl r0.1)), (a_p3_sizes, .inl (cI, 60, .inl r0.2.1)), (a_p3_starts, .inl (cI, 60, .inl r0.2.2))] [(a_p2, .inl (cI, 60, .inl c_p2)), (a_p3_sizes, .inl (cI, 60, .inl c_p3_sizes)), (a_p3_starts, .inl (cI, 60, .inl c_p3_starts))] sz) 0 0 (va_A [(a_p2, .inl (cI, 60, .inl c_p2)), (a_p3_sizes, .inl (cI, 60, .inl c_p3_sizes)), (a_p3_starts, .inl (cI, 60, .inl c_p3_starts))] sz) := by
  refine rk_metv h (fun x => [(a_p2, .inl (cI, 60, .inl x.1)), (a_p3_sizes, .inl (cI, 60, .inl x.2.1)), (a_p3_starts, .inl (cI, 60, .inl x.2.2))]) (by decide) (Nat.le_of_ble_eq_true rfl) ?_
  intro p e s m args below meth c A ls Q hret hname hF hP hD hA hV hR0 hn hPL hnl hl h hS
  have hx := hF.1
  have hb := hF.2.1
  have hml := hF.2.2.1
  have hown : s.vm.findClass RX1 = some m.cls := hF.2.2.2.1
  have htc := hF.2.2.2.2
  have hP : va_P D vwCl [(a_p2, .inl (cI, 60, .inl c_p2)), (a_p3_sizes, .inl (cI, 60, .inl c_p3_sizes)), (a_p3_starts, .inl (cI, 60, .inl c_p3_starts))] s.heap := hP
  have hD : va_D A [(a_p2, .inl (cI, 60, .inl c_p2)), (a_p3_sizes, .inl (cI, 60, .inl c_p3_sizes)), (a_p3_starts, .inl (cI, 60, .inl c_p3_starts))] := hD
  have hR0 : va_P D vwCl [(a_this, .inr (1, [.int f_this_number, .int f_this_width, .long f_this_size, .int f_this_zeros, .int f_this_ones, .int f_this_twos, .int f_this_threes])), (a_p1, .inl (cI, 60, .inl c_p1)), (a_p3, .inr (2, [.ref a_p3_binomials, .ref a_p3_partitionCounts, .ref a_p3_treeCounts, .ref a_p3_sizes, .ref a_p3_starts, .ref a_p3_ranks, .ref a_p3_letters]))] s.heap := hR0
  have hR := hR0
  have hl : lv_has ls 5 [(0, .ref a_this), (1, .ref a_p1), (2, .ref a_p2), (3, .ref a_p3)] := hl
  unfold fX1_turn at h
  refine lv_iconst (v := 0) hx hb dX1_turn_0 (by decide) ?_
  refine lv_istore (lv' := [(4, .int (0 : Int32)), (0, .ref a_this), (1, .ref a_p1), (2, .ref a_p2), (3, .ref a_p3)]) hx hb dX1_turn_1 hl (by decide) rfl (fun ls hl => ?_)
  have L3 : ∀ (n3 : Nat) (b3_l4 : Int32) (b3_c_p2 : Nat → Int32), rk_it2 (fX1_turn_L3 f_this_width c_p1 c_p3_sizes c_p3_starts) n3 b3_l4 b3_c_p2 = some r0 → ∀ (H : Heap) (locs : List Loc), va_P D vwCl [(a_p2, .inl (cI, 60, .inl b3_c_p2)), (a_p3_sizes, .inl (cI, 60, .inl c_p3_sizes)), (a_p3_starts, .inl (cI, 60, .inl c_p3_starts))] H → va_D A [(a_p2, .inl (cI, 60, .inl b3_c_p2)), (a_p3_sizes, .inl (cI, 60, .inl c_p3_sizes)), (a_p3_starts, .inl (cI, 60, .inl c_p3_starts))] → va_S A s.heap H locs → ∀ (ls : Array Slot), lv_has ls 5 [(0, .ref a_this), (1, .ref a_p1), (2, .ref a_p2), (4, .int b3_l4)] → W p l e rmX1_turn s m args below meth c H locs 0 0 Q (F0 m 3 ls []) := by
    intro n3
    induction n3 with
    | zero => intro b3_l4 b3_c_p2 h; exact rk_no h
    | succ n3 ih3 =>
      intro b3_l4 b3_c_p2 h H locs hP hD hS ls hl
      have h : fX1_turn_L3 f_this_width c_p1 c_p3_sizes c_p3_starts (rk_it2 (fX1_turn_L3 f_this_width c_p1 c_p3_sizes c_p3_starts) n3) b3_l4 b3_c_p2 = some r0 := h
      unfold fX1_turn_L3 at h
      have hR := rk_keep hR0 hn hS
      refine lv_iload hx hb dX1_turn_3 (lv_at hl 3 rfl) ?_
      refine lv_aload_n hx hb dX1_turn_5 rfl (lv_at hl 0 rfl) ?_
      refine va_get (D := D) (ci := 1) (v := .int f_this_width) (C := RX1) (T := TX1) (N := 7) hx hb htc inX1 hown hV.1 hR 0 rfl rfl 1 (by decide) (htc _ w_1_131) (fun _ h9 => u_same (htc _ w_1_132) _ h9) rfl dX1_turn_6 ?_
      refine lv_icmp_ge (tgt := 37) hx hb dX1_turn_9 (by decide) (fun hc1 => ?_) (fun hc1 => ?_)
      · have h := rk_if hc1 h
        exact hret (b3_c_p2, c_p3_sizes, c_p3_starts) _ _ _ _ h dX1_turn_37 hP hD hS
      · have h := rk_nif hc1 h
        refine lv_aload_n hx hb dX1_turn_12 rfl (lv_at hl 2 rfl) ?_
        refine lv_iload hx hb dX1_turn_13 (lv_at hl 3 rfl) ?_
        refine lv_aload_n hx hb dX1_turn_15 rfl (lv_at hl 1 rfl) ?_
        refine lv_aload_n hx hb dX1_turn_16 rfl (lv_at hl 0 rfl) ?_
        refine va_get (D := D) (ci := 1) (v := .int f_this_width) (C := RX1) (T := TX1) (N := 7) hx hb htc inX1 hown hV.1 hR 0 rfl rfl 1 (by decide) (htc _ w_1_131) (fun _ h9 => u_same (htc _ w_1_132) _ h9) rfl dX1_turn_17 ?_
        refine lv_iconst (v := 1) hx hb dX1_turn_20 (by decide) ?_
        refine lv_isub hx hb dX1_turn_21 ?_
        refine lv_iload hx hb dX1_turn_22 (lv_at hl 3 rfl) ?_
        refine lv_isub hx hb dX1_turn_24 ?_
        obtain ⟨r_25, hc_25, h⟩ := rk_bd h
        refine rk_i (wr := [(a_p2, .inl (cI, 60, .inl b3_c_p2)), (a_p3_sizes, .inl (cI, 60, .inl c_p3_sizes)), (a_p3_starts, .inl (cI, 60, .inl c_p3_starts))]) (va_runSN (As := [.ref a_p1, .int ((f_this_width - (1 : Int32)) - b3_l4)]) (rest := [.int b3_l4, .ref a_p2]) hF (mtX9_at l D cI cJ cO PL _ a_p1 60 c_p1 ((f_this_width - (1 : Int32)) - b3_l4) r_25 hc_25) ⟨va_cnB 2 htc (rk_gw w_1_52) rfl rfl rfl (hV.2.1 _ nw_1_199) (htc _ w_1_1) (by decide +kernel) ⟨(Nat.le_of_ble_eq_true rfl), (Nat.le_of_ble_eq_true rfl)⟩, htc _ w_1_51, trivial⟩ (rk_preS hP hD hS hR hn hPL hnl hV [] [(false, 1)] rfl (by decide) rfl (by decide)) rfl rfl hl.1 rfl (lv_room (Nat.le_of_ble_eq_true rfl)) dX1_turn_25 ⟨(Nat.le_of_ble_eq_true rfl), (Nat.le_of_ble_eq_true rfl)⟩) hP hD hS hA hR0 hn [] [0, 1, 2] rfl rfl (by decide) (by decide) (fun H locs hP hD hS hR => ?_)
        have hP : va_P D vwCl [(a_p2, .inl (cI, 60, .inl b3_c_p2)), (a_p3_sizes, .inl (cI, 60, .inl c_p3_sizes)), (a_p3_starts, .inl (cI, 60, .inl c_p3_starts))] H := hP
        have hD : va_D A [(a_p2, .inl (cI, 60, .inl b3_c_p2)), (a_p3_sizes, .inl (cI, 60, .inl c_p3_sizes)), (a_p3_starts, .inl (cI, 60, .inl c_p3_starts))] := hD
        obtain ⟨r_28, hc_28, h⟩ := rk_bd h
        refine rk_v (wr := [(a_p3_sizes, .inl (cI, 60, .inl c_p3_sizes)), (a_p3_starts, .inl (cI, 60, .inl c_p3_starts))]) (va_runSN (As := [.ref a_p2, .int b3_l4, .int r_25]) (rest := []) hF (mtX9_set l D cI cJ cO PL _ a_p2 60 b3_c_p2 b3_l4 r_25 r_28 hc_28) ⟨va_cnB 3 htc (rk_gw w_1_46) rfl rfl rfl (hV.2.1 _ nw_1_195) (htc _ w_1_1) (by decide +kernel) ⟨(Nat.le_of_ble_eq_true rfl), (Nat.le_of_ble_eq_true rfl)⟩, htc _ w_1_45, trivial⟩ (rk_preS hP hD hS hR hn hPL hnl hV [0] [] rfl (by decide) rfl (by decide)) rfl rfl hl.1 rfl (lv_room (Nat.le_of_ble_eq_true rfl)) dX1_turn_28 ⟨(Nat.le_of_ble_eq_true rfl), (Nat.le_of_ble_eq_true rfl)⟩) hP hD hS hA hR0 hn [0] [1, 2] rfl rfl (by decide) (by decide) (fun H locs hP hD hS hR => ?_)
        have hP : va_P D vwCl [(a_p3_sizes, .inl (cI, 60, .inl c_p3_sizes)), (a_p3_starts, .inl (cI, 60, .inl c_p3_starts)), (a_p2, .inl (cI, 60, .inl r_28))] H := hP
        have hD : va_D A [(a_p3_sizes, .inl (cI, 60, .inl c_p3_sizes)), (a_p3_starts, .inl (cI, 60, .inl c_p3_starts)), (a_p2, .inl (cI, 60, .inl r_28))] := hD
        refine lv_iinc (v := (b3_l4 + 1)) (lv' := [(4, .int (b3_l4 + 1)), (0, .ref a_this), (1, .ref a_p1), (2, .ref a_p2)]) hx hb dX1_turn_31 hl (k := 3) rfl rfl (by decide) rfl (fun ls hl => ?_)
        refine lv_goto (tgt := 3) hx hb dX1_turn_34 (by decide) ?_
        exact ih3 (b3_l4 + 1) r_28 h _ _ (hP.sub [2, 0, 1] rfl) (hD.sub [2, 0, 1] (by decide) rfl) hS _ (lv_sub hl [1, 2, 3, 0] rfl)
  exact L3 FU (0 : Int32) c_p2 h _ _ hP hD hS _ (lv_sub hl [1, 2, 3, 0] rfl)
set_option maxHeartbeats 4000000 in
set_option maxRecDepth 100000 in
theorem mtX2_binomialTriangle (l : Launch) (D : va_G) (cI cJ cO : ClassId) (PL : va_W) (sz : Nat) (r0 : (Nat → Int64)) (h : fX2_binomialTriangle = some r0) : Met l yX2_binomialTriangle (rk_w yX2_binomialTriangle cX2_binomialTriangle 5 (some (.array .long))) rmX2_binomialTriangle (va_Pc [] (rk_B D (rk_TY cI cJ cO) [] [] PL sz)) (rk_Qr D (fun ra => [(ra, .inl (cJ, 1891, .inr (.inl r0)))]) [] sz) 1 1891 (va_A [] sz) := by
  refine rk_metr (Or.inr ⟨_, rfl⟩) h (fun x ra => [(ra, .inl (cJ, 1891, .inr (.inl x)))]) (by decide) (Nat.le_of_ble_eq_true rfl) ?_
  intro p e s m args below meth c A ls Q hret hname hF hP hD hA hV hR0 hn hPL hnl hl h hS
  have hx := hF.1
  have hb := hF.2.1
  have hml := hF.2.2.1
  have hown : s.vm.findClass RX2 = some m.cls := hF.2.2.2.1
  have htc := hF.2.2.2.2
  have hP : va_P D vwCl [] s.heap := hP
  have hD : va_D A [] := hD
  have hR0 : va_P D vwCl [] s.heap := hR0
  have hR := hR0
  have hl : lv_has ls 5 [] := hl
  unfold fX2_binomialTriangle at h
  refine lv_sipush (v := 1891) hx hb dX2_binomialTriangle_0 (by decide) ?_
  refine rk_newJ (N := 1891) hx hb (htc _ w_1_84) hV hP hD hS hA rfl (by decide) (by decide) (Nat.le_of_ble_eq_true rfl) (Nat.le_of_ble_eq_true rfl) (Nat.le_of_ble_eq_true rfl) dX2_binomialTriangle_3 (fun q_3 H hP hD hS => ?_)
  have hP : va_P D vwCl [(q_3, .inl (cJ, 1891, .inr (.inl rk_z64)))] H := hP
  have hD : va_D A [(q_3, .inl (cJ, 1891, .inr (.inl rk_z64)))] := hD
  refine lv_astore_n (lv' := [(0, .ref q_3)]) hx hb dX2_binomialTriangle_5 rfl hl (by decide) rfl (fun ls hl => ?_)
  refine lv_iconst (v := 0) hx hb dX2_binomialTriangle_6 (by decide) ?_
  refine lv_istore_n (lv' := [(1, .int (0 : Int32)), (0, .ref q_3)]) hx hb dX2_binomialTriangle_7 rfl hl (by decide) rfl (fun ls hl => ?_)
  have L8 : ∀ (n8 : Nat) (b8_l1 : Int32) (b8_c_new_3 : Nat → Int64), rk_it2 (fX2_binomialTriangle_L8) n8 b8_l1 b8_c_new_3 = some r0 → ∀ (H : Heap) (locs : List Loc), va_P D vwCl [(q_3, .inl (cJ, 1891, .inr (.inl b8_c_new_3)))] H → va_D A [(q_3, .inl (cJ, 1891, .inr (.inl b8_c_new_3)))] → va_S A s.heap H locs → ∀ (ls : Array Slot), lv_has ls 5 [(0, .ref q_3), (1, .int b8_l1)] → W p l e rmX2_binomialTriangle s m args below meth c H locs 1 1891 Q (F0 m 8 ls []) := by
    intro n8
    induction n8 with
    | zero => intro b8_l1 b8_c_new_3 h; exact rk_no h
    | succ n8 ih8 =>
      intro b8_l1 b8_c_new_3 h H locs hP hD hS ls hl
      have h : fX2_binomialTriangle_L8 (rk_it2 (fX2_binomialTriangle_L8) n8) b8_l1 b8_c_new_3 = some r0 := h
      unfold fX2_binomialTriangle_L8 at h
      refine lv_iload_n hx hb dX2_binomialTriangle_8 rfl (lv_at hl 1 rfl) ?_
      refine lv_bipush (v := 60) hx hb dX2_binomialTriangle_9 (by decide) ?_
      refine lv_icmp_gt (tgt := 89) hx hb dX2_binomialTriangle_11 (by decide) (fun hc1 => ?_) (fun hc1 => ?_)
      · have h := rk_if hc1 h
        refine lv_aload_n hx hb dX2_binomialTriangle_89 rfl (lv_at hl 0 rfl) ?_
        refine W.widen (k := 1) (n := 1891) (Nat.le_of_ble_eq_true rfl) (Nat.le_of_ble_eq_true rfl) ?_
        exact hret b8_c_new_3 q_3 _ _ _ _ h dX2_binomialTriangle_90 hP hD hS
      · have h := rk_nif hc1 h
        refine lv_aload_n hx hb dX2_binomialTriangle_14 rfl (lv_at hl 0 rfl) ?_
        refine lv_iload_n hx hb dX2_binomialTriangle_15 rfl (lv_at hl 1 rfl) ?_
        refine lv_iconst (v := 0) hx hb dX2_binomialTriangle_16 (by decide) ?_
        obtain ⟨r_17, hc_17, h⟩ := rk_bd h
        refine rk_i (wr := [(q_3, .inl (cJ, 1891, .inr (.inl b8_c_new_3)))]) (va_runS (As := [.int b8_l1, .int (0 : Int32)]) (rest := [.ref q_3]) hF (mtX2_spot l D cI cJ cO PL _ b8_l1 (0 : Int32) r_17 hc_17) (va_cwS 2 htc (rk_gVS w_1_32 w_1_33 w_1_2 w_1_34) rfl rfl rfl (by decide +kernel) ⟨(Nat.le_of_ble_eq_true rfl), (Nat.le_of_ble_eq_true rfl)⟩) (rk_preS hP hD hS rk_nilP hn hPL hnl hV [] [] rfl (by decide) rfl (by decide)) rfl rfl hl.1 rfl (lv_room (Nat.le_of_ble_eq_true rfl)) dX2_binomialTriangle_17 ⟨(Nat.le_of_ble_eq_true rfl), (Nat.le_of_ble_eq_true rfl)⟩) hP hD hS hA hR0 hn [] [0] rfl rfl (by decide) (by decide) (fun H locs hP hD hS hR => ?_)
        have hP : va_P D vwCl [(q_3, .inl (cJ, 1891, .inr (.inl b8_c_new_3)))] H := hP
        have hD : va_D A [(q_3, .inl (cJ, 1891, .inr (.inl b8_c_new_3)))] := hD
        refine lv_lconst (v := 1) hx hb dX2_binomialTriangle_20 (by decide) ?_
        obtain ⟨r_21, hc_21, h⟩ := rk_bd h
        refine rk_v (wr := []) (va_runSN (As := [.ref q_3, .int r_17, .long (1 : Int64)]) (rest := []) hF (mtX9_set_ l D cI cJ cO PL _ q_3 1891 b8_c_new_3 r_17 (1 : Int64) r_21 hc_21) ⟨va_cnB 3 htc (rk_gw w_1_37) rfl rfl rfl (hV.2.1 _ nw_1_35) (htc _ w_1_1) (by decide +kernel) ⟨(Nat.le_of_ble_eq_true rfl), (Nat.le_of_ble_eq_true rfl)⟩, htc _ w_1_36, trivial⟩ (rk_preS hP hD hS rk_nilP hn hPL hnl hV [0] [] rfl (by decide) rfl (by decide)) rfl rfl hl.1 rfl (lv_room (Nat.le_of_ble_eq_true rfl)) dX2_binomialTriangle_21 ⟨(Nat.le_of_ble_eq_true rfl), (Nat.le_of_ble_eq_true rfl)⟩) hP hD hS hA hR0 hn [0] [] rfl rfl (by decide) (by decide) (fun H locs hP hD hS hR => ?_)
        have hP : va_P D vwCl [(q_3, .inl (cJ, 1891, .inr (.inl r_21)))] H := hP
        have hD : va_D A [(q_3, .inl (cJ, 1891, .inr (.inl r_21)))] := hD
        refine lv_iconst (v := 1) hx hb dX2_binomialTriangle_24 (by decide) ?_
        refine lv_istore_n (lv' := [(2, .int (1 : Int32)), (0, .ref q_3), (1, .int b8_l1)]) hx hb dX2_binomialTriangle_25 rfl hl (by decide) rfl (fun ls hl => ?_)
        have L26 : ∀ (n26 : Nat) (b26_l2 : Int32) (b26_c_new_3 : Nat → Int64), rk_it2 (fX2_binomialTriangle_L26 b8_l1 (rk_it2 (fX2_binomialTriangle_L8) n8)) n26 b26_l2 b26_c_new_3 = some r0 → ∀ (H : Heap) (locs : List Loc), va_P D vwCl [(q_3, .inl (cJ, 1891, .inr (.inl b26_c_new_3)))] H → va_D A [(q_3, .inl (cJ, 1891, .inr (.inl b26_c_new_3)))] → va_S A s.heap H locs → ∀ (ls : Array Slot), lv_has ls 5 [(0, .ref q_3), (1, .int b8_l1), (2, .int b26_l2)] → W p l e rmX2_binomialTriangle s m args below meth c H locs 1 1891 Q (F0 m 26 ls []) := by
          intro n26
          induction n26 with
          | zero => intro b26_l2 b26_c_new_3 h; exact rk_no h
          | succ n26 ih26 =>
            intro b26_l2 b26_c_new_3 h H locs hP hD hS ls hl
            have h : fX2_binomialTriangle_L26 b8_l1 (rk_it2 (fX2_binomialTriangle_L8) n8) (rk_it2 (fX2_binomialTriangle_L26 b8_l1 (rk_it2 (fX2_binomialTriangle_L8) n8)) n26) b26_l2 b26_c_new_3 = some r0 := h
            unfold fX2_binomialTriangle_L26 at h
            refine lv_iload_n hx hb dX2_binomialTriangle_26 rfl (lv_at hl 2 rfl) ?_
            refine lv_iload_n hx hb dX2_binomialTriangle_27 rfl (lv_at hl 1 rfl) ?_
            refine lv_icmp_ge (tgt := 73) hx hb dX2_binomialTriangle_28 (by decide) (fun hc2 => ?_) (fun hc2 => ?_)
            · have h := rk_if hc2 h
              refine lv_aload_n hx hb dX2_binomialTriangle_73 rfl (lv_at hl 0 rfl) ?_
              refine lv_iload_n hx hb dX2_binomialTriangle_74 rfl (lv_at hl 1 rfl) ?_
              refine lv_iload_n hx hb dX2_binomialTriangle_75 rfl (lv_at hl 1 rfl) ?_
              obtain ⟨r_76, hc_76, h⟩ := rk_bd h
              refine rk_i (wr := [(q_3, .inl (cJ, 1891, .inr (.inl b26_c_new_3)))]) (va_runS (As := [.int b8_l1, .int b8_l1]) (rest := [.ref q_3]) hF (mtX2_spot l D cI cJ cO PL _ b8_l1 b8_l1 r_76 hc_76) (va_cwS 2 htc (rk_gVS w_1_32 w_1_33 w_1_2 w_1_34) rfl rfl rfl (by decide +kernel) ⟨(Nat.le_of_ble_eq_true rfl), (Nat.le_of_ble_eq_true rfl)⟩) (rk_preS hP hD hS rk_nilP hn hPL hnl hV [] [] rfl (by decide) rfl (by decide)) rfl rfl hl.1 rfl (lv_room (Nat.le_of_ble_eq_true rfl)) dX2_binomialTriangle_76 ⟨(Nat.le_of_ble_eq_true rfl), (Nat.le_of_ble_eq_true rfl)⟩) hP hD hS hA hR0 hn [] [0] rfl rfl (by decide) (by decide) (fun H locs hP hD hS hR => ?_)
              have hP : va_P D vwCl [(q_3, .inl (cJ, 1891, .inr (.inl b26_c_new_3)))] H := hP
              have hD : va_D A [(q_3, .inl (cJ, 1891, .inr (.inl b26_c_new_3)))] := hD
              refine lv_lconst (v := 1) hx hb dX2_binomialTriangle_79 (by decide) ?_
              obtain ⟨r_80, hc_80, h⟩ := rk_bd h
              refine rk_v (wr := []) (va_runSN (As := [.ref q_3, .int r_76, .long (1 : Int64)]) (rest := []) hF (mtX9_set_ l D cI cJ cO PL _ q_3 1891 b26_c_new_3 r_76 (1 : Int64) r_80 hc_80) ⟨va_cnB 3 htc (rk_gw w_1_37) rfl rfl rfl (hV.2.1 _ nw_1_35) (htc _ w_1_1) (by decide +kernel) ⟨(Nat.le_of_ble_eq_true rfl), (Nat.le_of_ble_eq_true rfl)⟩, htc _ w_1_36, trivial⟩ (rk_preS hP hD hS rk_nilP hn hPL hnl hV [0] [] rfl (by decide) rfl (by decide)) rfl rfl hl.1 rfl (lv_room (Nat.le_of_ble_eq_true rfl)) dX2_binomialTriangle_80 ⟨(Nat.le_of_ble_eq_true rfl), (Nat.le_of_ble_eq_true rfl)⟩) hP hD hS hA hR0 hn [0] [] rfl rfl (by decide) (by decide) (fun H locs hP hD hS hR => ?_)
              have hP : va_P D vwCl [(q_3, .inl (cJ, 1891, .inr (.inl r_80)))] H := hP
              have hD : va_D A [(q_3, .inl (cJ, 1891, .inr (.inl r_80)))] := hD
              refine lv_iinc (v := (b8_l1 + 1)) (lv' := [(1, .int (b8_l1 + 1)), (0, .ref q_3), (2, .int b26_l2)]) hx hb dX2_binomialTriangle_83 hl (k := 1) rfl rfl (by decide) rfl (fun ls hl => ?_)
              refine lv_goto (tgt := 8) hx hb dX2_binomialTriangle_86 (by decide) ?_
              exact ih8 (b8_l1 + 1) r_80 h _ _ hP hD hS _ (lv_sub hl [1, 0] rfl)
            · have h := rk_nif hc2 h
              refine lv_aload_n hx hb dX2_binomialTriangle_31 rfl (lv_at hl 0 rfl) ?_
              refine lv_iload_n hx hb dX2_binomialTriangle_32 rfl (lv_at hl 1 rfl) ?_
              refine lv_iconst (v := 1) hx hb dX2_binomialTriangle_33 (by decide) ?_
              refine lv_isub hx hb dX2_binomialTriangle_34 ?_
              refine lv_iload_n hx hb dX2_binomialTriangle_35 rfl (lv_at hl 2 rfl) ?_
              refine lv_iconst (v := 1) hx hb dX2_binomialTriangle_36 (by decide) ?_
              refine lv_isub hx hb dX2_binomialTriangle_37 ?_
              obtain ⟨r_38, hc_38, h⟩ := rk_bd h
              refine rk_i (wr := [(q_3, .inl (cJ, 1891, .inr (.inl b26_c_new_3)))]) (va_runS (As := [.int (b8_l1 - (1 : Int32)), .int (b26_l2 - (1 : Int32))]) (rest := [.ref q_3]) hF (mtX2_spot l D cI cJ cO PL _ (b8_l1 - (1 : Int32)) (b26_l2 - (1 : Int32)) r_38 hc_38) (va_cwS 2 htc (rk_gVS w_1_32 w_1_33 w_1_2 w_1_34) rfl rfl rfl (by decide +kernel) ⟨(Nat.le_of_ble_eq_true rfl), (Nat.le_of_ble_eq_true rfl)⟩) (rk_preS hP hD hS rk_nilP hn hPL hnl hV [] [] rfl (by decide) rfl (by decide)) rfl rfl hl.1 rfl (lv_room (Nat.le_of_ble_eq_true rfl)) dX2_binomialTriangle_38 ⟨(Nat.le_of_ble_eq_true rfl), (Nat.le_of_ble_eq_true rfl)⟩) hP hD hS hA hR0 hn [] [0] rfl rfl (by decide) (by decide) (fun H locs hP hD hS hR => ?_)
              have hP : va_P D vwCl [(q_3, .inl (cJ, 1891, .inr (.inl b26_c_new_3)))] H := hP
              have hD : va_D A [(q_3, .inl (cJ, 1891, .inr (.inl b26_c_new_3)))] := hD
              obtain ⟨r_41, hc_41, h⟩ := rk_bd h
              refine rk_l (wr := [(q_3, .inl (cJ, 1891, .inr (.inl b26_c_new_3)))]) (va_runSN (As := [.ref q_3, .int r_38]) (rest := []) hF (mtX9_at_ l D cI cJ cO PL _ q_3 1891 b26_c_new_3 r_38 r_41 hc_41) ⟨va_cnB 2 htc (rk_gw w_1_40) rfl rfl rfl (hV.2.1 _ nw_1_38) (htc _ w_1_1) (by decide +kernel) ⟨(Nat.le_of_ble_eq_true rfl), (Nat.le_of_ble_eq_true rfl)⟩, htc _ w_1_39, trivial⟩ (rk_preS hP hD hS rk_nilP hn hPL hnl hV [] [(true, 0)] rfl (by decide) rfl (by decide)) rfl rfl hl.1 rfl (lv_room (Nat.le_of_ble_eq_true rfl)) dX2_binomialTriangle_41 ⟨(Nat.le_of_ble_eq_true rfl), (Nat.le_of_ble_eq_true rfl)⟩) hP hD hS hA hR0 hn [] [0] rfl rfl (by decide) (by decide) (fun H locs hP hD hS hR => ?_)
              have hP : va_P D vwCl [(q_3, .inl (cJ, 1891, .inr (.inl b26_c_new_3)))] H := hP
              have hD : va_D A [(q_3, .inl (cJ, 1891, .inr (.inl b26_c_new_3)))] := hD
              refine lv_aload_n hx hb dX2_binomialTriangle_44 rfl (lv_at hl 0 rfl) ?_
              refine lv_iload_n hx hb dX2_binomialTriangle_45 rfl (lv_at hl 1 rfl) ?_
              refine lv_iconst (v := 1) hx hb dX2_binomialTriangle_46 (by decide) ?_
              refine lv_isub hx hb dX2_binomialTriangle_47 ?_
              refine lv_iload_n hx hb dX2_binomialTriangle_48 rfl (lv_at hl 2 rfl) ?_
              obtain ⟨r_49, hc_49, h⟩ := rk_bd h
              refine rk_i (wr := [(q_3, .inl (cJ, 1891, .inr (.inl b26_c_new_3)))]) (va_runS (As := [.int (b8_l1 - (1 : Int32)), .int b26_l2]) (rest := [.ref q_3, .long r_41]) hF (mtX2_spot l D cI cJ cO PL _ (b8_l1 - (1 : Int32)) b26_l2 r_49 hc_49) (va_cwS 2 htc (rk_gVS w_1_32 w_1_33 w_1_2 w_1_34) rfl rfl rfl (by decide +kernel) ⟨(Nat.le_of_ble_eq_true rfl), (Nat.le_of_ble_eq_true rfl)⟩) (rk_preS hP hD hS rk_nilP hn hPL hnl hV [] [] rfl (by decide) rfl (by decide)) rfl rfl hl.1 rfl (lv_room (Nat.le_of_ble_eq_true rfl)) dX2_binomialTriangle_49 ⟨(Nat.le_of_ble_eq_true rfl), (Nat.le_of_ble_eq_true rfl)⟩) hP hD hS hA hR0 hn [] [0] rfl rfl (by decide) (by decide) (fun H locs hP hD hS hR => ?_)
              have hP : va_P D vwCl [(q_3, .inl (cJ, 1891, .inr (.inl b26_c_new_3)))] H := hP
              have hD : va_D A [(q_3, .inl (cJ, 1891, .inr (.inl b26_c_new_3)))] := hD
              obtain ⟨r_52, hc_52, h⟩ := rk_bd h
              refine rk_l (wr := [(q_3, .inl (cJ, 1891, .inr (.inl b26_c_new_3)))]) (va_runSN (As := [.ref q_3, .int r_49]) (rest := [.long r_41]) hF (mtX9_at_ l D cI cJ cO PL _ q_3 1891 b26_c_new_3 r_49 r_52 hc_52) ⟨va_cnB 2 htc (rk_gw w_1_40) rfl rfl rfl (hV.2.1 _ nw_1_38) (htc _ w_1_1) (by decide +kernel) ⟨(Nat.le_of_ble_eq_true rfl), (Nat.le_of_ble_eq_true rfl)⟩, htc _ w_1_39, trivial⟩ (rk_preS hP hD hS rk_nilP hn hPL hnl hV [] [(true, 0)] rfl (by decide) rfl (by decide)) rfl rfl hl.1 rfl (lv_room (Nat.le_of_ble_eq_true rfl)) dX2_binomialTriangle_52 ⟨(Nat.le_of_ble_eq_true rfl), (Nat.le_of_ble_eq_true rfl)⟩) hP hD hS hA hR0 hn [] [0] rfl rfl (by decide) (by decide) (fun H locs hP hD hS hR => ?_)
              have hP : va_P D vwCl [(q_3, .inl (cJ, 1891, .inr (.inl b26_c_new_3)))] H := hP
              have hD : va_D A [(q_3, .inl (cJ, 1891, .inr (.inl b26_c_new_3)))] := hD
              refine lv_ladd hx hb dX2_binomialTriangle_55 ?_
              refine lv_lstore_n (lv' := [(3, .long (r_41 + r_52)), (0, .ref q_3), (1, .int b8_l1), (2, .int b26_l2)]) hx hb dX2_binomialTriangle_56 rfl hl (by decide) rfl (fun ls hl => ?_)
              refine lv_aload_n hx hb dX2_binomialTriangle_57 rfl (lv_at hl 1 rfl) ?_
              refine lv_iload_n hx hb dX2_binomialTriangle_58 rfl (lv_at hl 2 rfl) ?_
              refine lv_iload_n hx hb dX2_binomialTriangle_59 rfl (lv_at hl 3 rfl) ?_
              obtain ⟨r_60, hc_60, h⟩ := rk_bd h
              refine rk_i (wr := [(q_3, .inl (cJ, 1891, .inr (.inl b26_c_new_3)))]) (va_runS (As := [.int b8_l1, .int b26_l2]) (rest := [.ref q_3]) hF (mtX2_spot l D cI cJ cO PL _ b8_l1 b26_l2 r_60 hc_60) (va_cwS 2 htc (rk_gVS w_1_32 w_1_33 w_1_2 w_1_34) rfl rfl rfl (by decide +kernel) ⟨(Nat.le_of_ble_eq_true rfl), (Nat.le_of_ble_eq_true rfl)⟩) (rk_preS hP hD hS rk_nilP hn hPL hnl hV [] [] rfl (by decide) rfl (by decide)) rfl rfl hl.1 rfl (lv_room (Nat.le_of_ble_eq_true rfl)) dX2_binomialTriangle_60 ⟨(Nat.le_of_ble_eq_true rfl), (Nat.le_of_ble_eq_true rfl)⟩) hP hD hS hA hR0 hn [] [0] rfl rfl (by decide) (by decide) (fun H locs hP hD hS hR => ?_)
              have hP : va_P D vwCl [(q_3, .inl (cJ, 1891, .inr (.inl b26_c_new_3)))] H := hP
              have hD : va_D A [(q_3, .inl (cJ, 1891, .inr (.inl b26_c_new_3)))] := hD
              refine lv_lload_n hx hb dX2_binomialTriangle_63 rfl (lv_at hl 0 rfl) ?_
              obtain ⟨r_64, hc_64, h⟩ := rk_bd h
              refine rk_v (wr := []) (va_runSN (As := [.ref q_3, .int r_60, .long (r_41 + r_52)]) (rest := []) hF (mtX9_set_ l D cI cJ cO PL _ q_3 1891 b26_c_new_3 r_60 (r_41 + r_52) r_64 hc_64) ⟨va_cnB 3 htc (rk_gw w_1_37) rfl rfl rfl (hV.2.1 _ nw_1_35) (htc _ w_1_1) (by decide +kernel) ⟨(Nat.le_of_ble_eq_true rfl), (Nat.le_of_ble_eq_true rfl)⟩, htc _ w_1_36, trivial⟩ (rk_preS hP hD hS rk_nilP hn hPL hnl hV [0] [] rfl (by decide) rfl (by decide)) rfl rfl hl.1 rfl (lv_room (Nat.le_of_ble_eq_true rfl)) dX2_binomialTriangle_64 ⟨(Nat.le_of_ble_eq_true rfl), (Nat.le_of_ble_eq_true rfl)⟩) hP hD hS hA hR0 hn [0] [] rfl rfl (by decide) (by decide) (fun H locs hP hD hS hR => ?_)
              have hP : va_P D vwCl [(q_3, .inl (cJ, 1891, .inr (.inl r_64)))] H := hP
              have hD : va_D A [(q_3, .inl (cJ, 1891, .inr (.inl r_64)))] := hD
              refine lv_iinc (v := (b26_l2 + 1)) (lv' := [(2, .int (b26_l2 + 1)), (3, .long (r_41 + r_52)), (0, .ref q_3), (1, .int b8_l1)]) hx hb dX2_binomialTriangle_67 hl (k := 3) rfl rfl (by decide) rfl (fun ls hl => ?_)
              refine lv_goto (tgt := 26) hx hb dX2_binomialTriangle_70 (by decide) ?_
              exact ih26 (b26_l2 + 1) r_64 h _ _ hP hD hS _ (lv_sub hl [2, 3, 0] rfl)
        exact L26 FU (1 : Int32) r_21 h _ _ hP hD hS _ (lv_sub hl [1, 2, 0] rfl)
  exact L8 FU (0 : Int32) rk_z64 h _ _ hP hD hS _ (lv_sub hl [1, 0] rfl)
set_option maxHeartbeats 4000000 in
set_option maxRecDepth 100000 in
theorem mtX2_partitionTriangle (l : Launch) (D : va_G) (cI cJ cO : ClassId) (PL : va_W) (sz : Nat) (r0 : (Nat → Int32)) (h : fX2_partitionTriangle = some r0) : Met l yX2_partitionTriangle (rk_w yX2_partitionTriangle cX2_partitionTriangle 5 (some (.array .int))) rmX2_partitionTriangle (va_Pc [] (rk_B D (rk_TY cI cJ cO) [] [] PL sz)) (rk_Qr D (fun ra => [(ra, .inl (cI, 1891, .inl r0))]) [] sz) 1 1891 (va_A [] sz) := by
  refine rk_metr (Or.inr ⟨_, rfl⟩) h (fun x ra => [(ra, .inl (cI, 1891, .inl x))]) (by decide) (Nat.le_of_ble_eq_true rfl) ?_
  intro p e s m args below meth c A ls Q hret hname hF hP hD hA hV hR0 hn hPL hnl hl h hS
  have hx := hF.1
  have hb := hF.2.1
  have hml := hF.2.2.1
  have hown : s.vm.findClass RX2 = some m.cls := hF.2.2.2.1
  have htc := hF.2.2.2.2
  have hP : va_P D vwCl [] s.heap := hP
  have hD : va_D A [] := hD
  have hR0 : va_P D vwCl [] s.heap := hR0
  have hR := hR0
  have hl : lv_has ls 5 [] := hl
  unfold fX2_partitionTriangle at h
  refine lv_sipush (v := 1891) hx hb dX2_partitionTriangle_0 (by decide) ?_
  refine rk_newI (N := 1891) hx hb (htc _ w_1_83) hV hP hD hS hA rfl (by decide) (by decide) (Nat.le_of_ble_eq_true rfl) (Nat.le_of_ble_eq_true rfl) (Nat.le_of_ble_eq_true rfl) dX2_partitionTriangle_3 (fun q_3 H hP hD hS => ?_)
  have hP : va_P D vwCl [(q_3, .inl (cI, 1891, .inl rk_z32))] H := hP
  have hD : va_D A [(q_3, .inl (cI, 1891, .inl rk_z32))] := hD
  refine lv_astore_n (lv' := [(0, .ref q_3)]) hx hb dX2_partitionTriangle_5 rfl hl (by decide) rfl (fun ls hl => ?_)
  refine lv_aload_n hx hb dX2_partitionTriangle_6 rfl (lv_at hl 0 rfl) ?_
  refine lv_iconst (v := 0) hx hb dX2_partitionTriangle_7 (by decide) ?_
  refine lv_iconst (v := 0) hx hb dX2_partitionTriangle_8 (by decide) ?_
  obtain ⟨r_9, hc_9, h⟩ := rk_bd h
  refine rk_i (wr := [(q_3, .inl (cI, 1891, .inl rk_z32))]) (va_runS (As := [.int (0 : Int32), .int (0 : Int32)]) (rest := [.ref q_3]) hF (mtX2_spot l D cI cJ cO PL _ (0 : Int32) (0 : Int32) r_9 hc_9) (va_cwS 2 htc (rk_gVS w_1_32 w_1_33 w_1_2 w_1_34) rfl rfl rfl (by decide +kernel) ⟨(Nat.le_of_ble_eq_true rfl), (Nat.le_of_ble_eq_true rfl)⟩) (rk_preS hP hD hS rk_nilP hn hPL hnl hV [] [] rfl (by decide) rfl (by decide)) rfl rfl hl.1 rfl (lv_room (Nat.le_of_ble_eq_true rfl)) dX2_partitionTriangle_9 ⟨(Nat.le_of_ble_eq_true rfl), (Nat.le_of_ble_eq_true rfl)⟩) hP hD hS hA hR0 hn [] [0] rfl rfl (by decide) (by decide) (fun H locs hP hD hS hR => ?_)
  have hP : va_P D vwCl [(q_3, .inl (cI, 1891, .inl rk_z32))] H := hP
  have hD : va_D A [(q_3, .inl (cI, 1891, .inl rk_z32))] := hD
  refine lv_iconst (v := 1) hx hb dX2_partitionTriangle_12 (by decide) ?_
  obtain ⟨r_13, hc_13, h⟩ := rk_bd h
  refine rk_v (wr := []) (va_runSN (As := [.ref q_3, .int r_9, .int (1 : Int32)]) (rest := []) hF (mtX9_set l D cI cJ cO PL _ q_3 1891 rk_z32 r_9 (1 : Int32) r_13 hc_13) ⟨va_cnB 3 htc (rk_gw w_1_46) rfl rfl rfl (hV.2.1 _ nw_1_44) (htc _ w_1_1) (by decide +kernel) ⟨(Nat.le_of_ble_eq_true rfl), (Nat.le_of_ble_eq_true rfl)⟩, htc _ w_1_45, trivial⟩ (rk_preS hP hD hS rk_nilP hn hPL hnl hV [0] [] rfl (by decide) rfl (by decide)) rfl rfl hl.1 rfl (lv_room (Nat.le_of_ble_eq_true rfl)) dX2_partitionTriangle_13 ⟨(Nat.le_of_ble_eq_true rfl), (Nat.le_of_ble_eq_true rfl)⟩) hP hD hS hA hR0 hn [0] [] rfl rfl (by decide) (by decide) (fun H locs hP hD hS hR => ?_)
  have hP : va_P D vwCl [(q_3, .inl (cI, 1891, .inl r_13))] H := hP
  have hD : va_D A [(q_3, .inl (cI, 1891, .inl r_13))] := hD
  refine lv_iconst (v := 1) hx hb dX2_partitionTriangle_16 (by decide) ?_
  refine lv_istore_n (lv' := [(1, .int (1 : Int32)), (0, .ref q_3)]) hx hb dX2_partitionTriangle_17 rfl hl (by decide) rfl (fun ls hl => ?_)
  have L18 : ∀ (n18 : Nat) (b18_l1 : Int32) (b18_c_new_3 : Nat → Int32), rk_it2 (fX2_partitionTriangle_L18) n18 b18_l1 b18_c_new_3 = some r0 → ∀ (H : Heap) (locs : List Loc), va_P D vwCl [(q_3, .inl (cI, 1891, .inl b18_c_new_3))] H → va_D A [(q_3, .inl (cI, 1891, .inl b18_c_new_3))] → va_S A s.heap H locs → ∀ (ls : Array Slot), lv_has ls 5 [(0, .ref q_3), (1, .int b18_l1)] → W p l e rmX2_partitionTriangle s m args below meth c H locs 1 1891 Q (F0 m 18 ls []) := by
    intro n18
    induction n18 with
    | zero => intro b18_l1 b18_c_new_3 h; exact rk_no h
    | succ n18 ih18 =>
      intro b18_l1 b18_c_new_3 h H locs hP hD hS ls hl
      have h : fX2_partitionTriangle_L18 (rk_it2 (fX2_partitionTriangle_L18) n18) b18_l1 b18_c_new_3 = some r0 := h
      unfold fX2_partitionTriangle_L18 at h
      refine lv_iload_n hx hb dX2_partitionTriangle_18 rfl (lv_at hl 1 rfl) ?_
      refine lv_bipush (v := 60) hx hb dX2_partitionTriangle_19 (by decide) ?_
      refine lv_icmp_gt (tgt := 85) hx hb dX2_partitionTriangle_21 (by decide) (fun hc1 => ?_) (fun hc1 => ?_)
      · have h := rk_if hc1 h
        refine lv_aload_n hx hb dX2_partitionTriangle_85 rfl (lv_at hl 0 rfl) ?_
        refine W.widen (k := 1) (n := 1891) (Nat.le_of_ble_eq_true rfl) (Nat.le_of_ble_eq_true rfl) ?_
        exact hret b18_c_new_3 q_3 _ _ _ _ h dX2_partitionTriangle_86 hP hD hS
      · have h := rk_nif hc1 h
        refine lv_iconst (v := 1) hx hb dX2_partitionTriangle_24 (by decide) ?_
        refine lv_istore_n (lv' := [(2, .int (1 : Int32)), (0, .ref q_3), (1, .int b18_l1)]) hx hb dX2_partitionTriangle_25 rfl hl (by decide) rfl (fun ls hl => ?_)
        have L26 : ∀ (n26 : Nat) (b26_l2 : Int32) (b26_c_new_3 : Nat → Int32), rk_it2 (fX2_partitionTriangle_L26 b18_l1 (rk_it2 (fX2_partitionTriangle_L18) n18)) n26 b26_l2 b26_c_new_3 = some r0 → ∀ (H : Heap) (locs : List Loc), va_P D vwCl [(q_3, .inl (cI, 1891, .inl b26_c_new_3))] H → va_D A [(q_3, .inl (cI, 1891, .inl b26_c_new_3))] → va_S A s.heap H locs → ∀ (ls : Array Slot), lv_has ls 5 [(0, .ref q_3), (1, .int b18_l1), (2, .int b26_l2)] → W p l e rmX2_partitionTriangle s m args below meth c H locs 1 1891 Q (F0 m 26 ls []) := by
          intro n26
          induction n26 with
          | zero => intro b26_l2 b26_c_new_3 h; exact rk_no h
          | succ n26 ih26 =>
            intro b26_l2 b26_c_new_3 h H locs hP hD hS ls hl
            have h : fX2_partitionTriangle_L26 b18_l1 (rk_it2 (fX2_partitionTriangle_L18) n18) (rk_it2 (fX2_partitionTriangle_L26 b18_l1 (rk_it2 (fX2_partitionTriangle_L18) n18)) n26) b26_l2 b26_c_new_3 = some r0 := h
            unfold fX2_partitionTriangle_L26 at h
            refine lv_iload_n hx hb dX2_partitionTriangle_26 rfl (lv_at hl 2 rfl) ?_
            refine lv_iload_n hx hb dX2_partitionTriangle_27 rfl (lv_at hl 1 rfl) ?_
            refine lv_icmp_gt (tgt := 79) hx hb dX2_partitionTriangle_28 (by decide) (fun hc2 => ?_) (fun hc2 => ?_)
            · have h := rk_if hc2 h
              refine lv_iinc (v := (b18_l1 + 1)) (lv' := [(1, .int (b18_l1 + 1)), (0, .ref q_3), (2, .int b26_l2)]) hx hb dX2_partitionTriangle_79 hl (k := 1) rfl rfl (by decide) rfl (fun ls hl => ?_)
              refine lv_goto (tgt := 18) hx hb dX2_partitionTriangle_82 (by decide) ?_
              exact ih18 (b18_l1 + 1) b26_c_new_3 h _ _ hP hD hS _ (lv_sub hl [1, 0] rfl)
            · have h := rk_nif hc2 h
              refine lv_iload_n hx hb dX2_partitionTriangle_31 rfl (lv_at hl 1 rfl) ?_
              refine lv_iload_n hx hb dX2_partitionTriangle_32 rfl (lv_at hl 2 rfl) ?_
              refine lv_isub hx hb dX2_partitionTriangle_33 ?_
              refine lv_istore_n (lv' := [(3, .int (b18_l1 - b26_l2)), (0, .ref q_3), (1, .int b18_l1), (2, .int b26_l2)]) hx hb dX2_partitionTriangle_34 rfl hl (by decide) rfl (fun ls hl => ?_)
              refine lv_aload_n hx hb dX2_partitionTriangle_35 rfl (lv_at hl 1 rfl) ?_
              refine lv_iload_n hx hb dX2_partitionTriangle_36 rfl (lv_at hl 0 rfl) ?_
              refine lv_iload_n hx hb dX2_partitionTriangle_37 rfl (lv_at hl 0 rfl) ?_
              refine lv_iload_n hx hb dX2_partitionTriangle_38 rfl (lv_at hl 3 rfl) ?_
              refine va_mmin hx hb (hml.trans hl.1.symm) hown (htc _ w_1_47) (htc _ w_1_48) (htc _ w_1_3) (htc _ w_1_49) (Nat.le_of_ble_eq_true rfl) (Nat.le_of_ble_eq_true rfl) (Nat.le_of_ble_eq_true rfl) (Nat.le_of_ble_eq_true rfl) dX2_partitionTriangle_39 ?_
              obtain ⟨r_42, hc_42, h⟩ := rk_bd h
              refine rk_i (wr := [(q_3, .inl (cI, 1891, .inl b26_c_new_3))]) (va_runS (As := [.int (b18_l1 - b26_l2), .int (if b26_l2 < (b18_l1 - b26_l2) then b26_l2 else (b18_l1 - b26_l2))]) (rest := [.ref q_3]) hF (mtX2_spot l D cI cJ cO PL _ (b18_l1 - b26_l2) (if b26_l2 < (b18_l1 - b26_l2) then b26_l2 else (b18_l1 - b26_l2)) r_42 hc_42) (va_cwS 2 htc (rk_gVS w_1_32 w_1_33 w_1_2 w_1_34) rfl rfl rfl (by decide +kernel) ⟨(Nat.le_of_ble_eq_true rfl), (Nat.le_of_ble_eq_true rfl)⟩) (rk_preS hP hD hS rk_nilP hn hPL hnl hV [] [] rfl (by decide) rfl (by decide)) rfl rfl hl.1 rfl (lv_room (Nat.le_of_ble_eq_true rfl)) dX2_partitionTriangle_42 ⟨(Nat.le_of_ble_eq_true rfl), (Nat.le_of_ble_eq_true rfl)⟩) hP hD hS hA hR0 hn [] [0] rfl rfl (by decide) (by decide) (fun H locs hP hD hS hR => ?_)
              have hP : va_P D vwCl [(q_3, .inl (cI, 1891, .inl b26_c_new_3))] H := hP
              have hD : va_D A [(q_3, .inl (cI, 1891, .inl b26_c_new_3))] := hD
              obtain ⟨r_45, hc_45, h⟩ := rk_bd h
              refine rk_i (wr := [(q_3, .inl (cI, 1891, .inl b26_c_new_3))]) (va_runSN (As := [.ref q_3, .int r_42]) (rest := []) hF (mtX9_at l D cI cJ cO PL _ q_3 1891 b26_c_new_3 r_42 r_45 hc_45) ⟨va_cnB 2 htc (rk_gw w_1_52) rfl rfl rfl (hV.2.1 _ nw_1_50) (htc _ w_1_1) (by decide +kernel) ⟨(Nat.le_of_ble_eq_true rfl), (Nat.le_of_ble_eq_true rfl)⟩, htc _ w_1_51, trivial⟩ (rk_preS hP hD hS rk_nilP hn hPL hnl hV [] [(true, 0)] rfl (by decide) rfl (by decide)) rfl rfl hl.1 rfl (lv_room (Nat.le_of_ble_eq_true rfl)) dX2_partitionTriangle_45 ⟨(Nat.le_of_ble_eq_true rfl), (Nat.le_of_ble_eq_true rfl)⟩) hP hD hS hA hR0 hn [] [0] rfl rfl (by decide) (by decide) (fun H locs hP hD hS hR => ?_)
              have hP : va_P D vwCl [(q_3, .inl (cI, 1891, .inl b26_c_new_3))] H := hP
              have hD : va_D A [(q_3, .inl (cI, 1891, .inl b26_c_new_3))] := hD
              refine lv_istore (lv' := [(4, .int r_45), (3, .int (b18_l1 - b26_l2)), (0, .ref q_3), (1, .int b18_l1), (2, .int b26_l2)]) hx hb dX2_partitionTriangle_48 hl (by decide) rfl (fun ls hl => ?_)
              refine lv_aload_n hx hb dX2_partitionTriangle_50 rfl (lv_at hl 2 rfl) ?_
              refine lv_iload_n hx hb dX2_partitionTriangle_51 rfl (lv_at hl 3 rfl) ?_
              refine lv_iload_n hx hb dX2_partitionTriangle_52 rfl (lv_at hl 4 rfl) ?_
              obtain ⟨r_53, hc_53, h⟩ := rk_bd h
              refine rk_i (wr := [(q_3, .inl (cI, 1891, .inl b26_c_new_3))]) (va_runS (As := [.int b18_l1, .int b26_l2]) (rest := [.ref q_3]) hF (mtX2_spot l D cI cJ cO PL _ b18_l1 b26_l2 r_53 hc_53) (va_cwS 2 htc (rk_gVS w_1_32 w_1_33 w_1_2 w_1_34) rfl rfl rfl (by decide +kernel) ⟨(Nat.le_of_ble_eq_true rfl), (Nat.le_of_ble_eq_true rfl)⟩) (rk_preS hP hD hS rk_nilP hn hPL hnl hV [] [] rfl (by decide) rfl (by decide)) rfl rfl hl.1 rfl (lv_room (Nat.le_of_ble_eq_true rfl)) dX2_partitionTriangle_53 ⟨(Nat.le_of_ble_eq_true rfl), (Nat.le_of_ble_eq_true rfl)⟩) hP hD hS hA hR0 hn [] [0] rfl rfl (by decide) (by decide) (fun H locs hP hD hS hR => ?_)
              have hP : va_P D vwCl [(q_3, .inl (cI, 1891, .inl b26_c_new_3))] H := hP
              have hD : va_D A [(q_3, .inl (cI, 1891, .inl b26_c_new_3))] := hD
              refine lv_aload_n hx hb dX2_partitionTriangle_56 rfl (lv_at hl 2 rfl) ?_
              refine lv_iload_n hx hb dX2_partitionTriangle_57 rfl (lv_at hl 3 rfl) ?_
              refine lv_iload_n hx hb dX2_partitionTriangle_58 rfl (lv_at hl 4 rfl) ?_
              refine lv_iconst (v := 1) hx hb dX2_partitionTriangle_59 (by decide) ?_
              refine lv_isub hx hb dX2_partitionTriangle_60 ?_
              obtain ⟨r_61, hc_61, h⟩ := rk_bd h
              refine rk_i (wr := [(q_3, .inl (cI, 1891, .inl b26_c_new_3))]) (va_runS (As := [.int b18_l1, .int (b26_l2 - (1 : Int32))]) (rest := [.ref q_3, .int r_53, .ref q_3]) hF (mtX2_spot l D cI cJ cO PL _ b18_l1 (b26_l2 - (1 : Int32)) r_61 hc_61) (va_cwS 2 htc (rk_gVS w_1_32 w_1_33 w_1_2 w_1_34) rfl rfl rfl (by decide +kernel) ⟨(Nat.le_of_ble_eq_true rfl), (Nat.le_of_ble_eq_true rfl)⟩) (rk_preS hP hD hS rk_nilP hn hPL hnl hV [] [] rfl (by decide) rfl (by decide)) rfl rfl hl.1 rfl (lv_room (Nat.le_of_ble_eq_true rfl)) dX2_partitionTriangle_61 ⟨(Nat.le_of_ble_eq_true rfl), (Nat.le_of_ble_eq_true rfl)⟩) hP hD hS hA hR0 hn [] [0] rfl rfl (by decide) (by decide) (fun H locs hP hD hS hR => ?_)
              have hP : va_P D vwCl [(q_3, .inl (cI, 1891, .inl b26_c_new_3))] H := hP
              have hD : va_D A [(q_3, .inl (cI, 1891, .inl b26_c_new_3))] := hD
              obtain ⟨r_64, hc_64, h⟩ := rk_bd h
              refine rk_i (wr := [(q_3, .inl (cI, 1891, .inl b26_c_new_3))]) (va_runSN (As := [.ref q_3, .int r_61]) (rest := [.int r_53, .ref q_3]) hF (mtX9_at l D cI cJ cO PL _ q_3 1891 b26_c_new_3 r_61 r_64 hc_64) ⟨va_cnB 2 htc (rk_gw w_1_52) rfl rfl rfl (hV.2.1 _ nw_1_50) (htc _ w_1_1) (by decide +kernel) ⟨(Nat.le_of_ble_eq_true rfl), (Nat.le_of_ble_eq_true rfl)⟩, htc _ w_1_51, trivial⟩ (rk_preS hP hD hS rk_nilP hn hPL hnl hV [] [(true, 0)] rfl (by decide) rfl (by decide)) rfl rfl hl.1 rfl (lv_room (Nat.le_of_ble_eq_true rfl)) dX2_partitionTriangle_64 ⟨(Nat.le_of_ble_eq_true rfl), (Nat.le_of_ble_eq_true rfl)⟩) hP hD hS hA hR0 hn [] [0] rfl rfl (by decide) (by decide) (fun H locs hP hD hS hR => ?_)
              have hP : va_P D vwCl [(q_3, .inl (cI, 1891, .inl b26_c_new_3))] H := hP
              have hD : va_D A [(q_3, .inl (cI, 1891, .inl b26_c_new_3))] := hD
              refine lv_iload hx hb dX2_partitionTriangle_67 (lv_at hl 0 rfl) ?_
              refine lv_iadd hx hb dX2_partitionTriangle_69 ?_
              obtain ⟨r_70, hc_70, h⟩ := rk_bd h
              refine rk_v (wr := []) (va_runSN (As := [.ref q_3, .int r_53, .int (r_64 + r_45)]) (rest := []) hF (mtX9_set l D cI cJ cO PL _ q_3 1891 b26_c_new_3 r_53 (r_64 + r_45) r_70 hc_70) ⟨va_cnB 3 htc (rk_gw w_1_46) rfl rfl rfl (hV.2.1 _ nw_1_44) (htc _ w_1_1) (by decide +kernel) ⟨(Nat.le_of_ble_eq_true rfl), (Nat.le_of_ble_eq_true rfl)⟩, htc _ w_1_45, trivial⟩ (rk_preS hP hD hS rk_nilP hn hPL hnl hV [0] [] rfl (by decide) rfl (by decide)) rfl rfl hl.1 rfl (lv_room (Nat.le_of_ble_eq_true rfl)) dX2_partitionTriangle_70 ⟨(Nat.le_of_ble_eq_true rfl), (Nat.le_of_ble_eq_true rfl)⟩) hP hD hS hA hR0 hn [0] [] rfl rfl (by decide) (by decide) (fun H locs hP hD hS hR => ?_)
              have hP : va_P D vwCl [(q_3, .inl (cI, 1891, .inl r_70))] H := hP
              have hD : va_D A [(q_3, .inl (cI, 1891, .inl r_70))] := hD
              refine lv_iinc (v := (b26_l2 + 1)) (lv' := [(2, .int (b26_l2 + 1)), (4, .int r_45), (3, .int (b18_l1 - b26_l2)), (0, .ref q_3), (1, .int b18_l1)]) hx hb dX2_partitionTriangle_73 hl (k := 4) rfl rfl (by decide) rfl (fun ls hl => ?_)
              refine lv_goto (tgt := 26) hx hb dX2_partitionTriangle_76 (by decide) ?_
              exact ih26 (b26_l2 + 1) r_70 h _ _ hP hD hS _ (lv_sub hl [3, 4, 0] rfl)
        exact L26 FU (1 : Int32) b18_c_new_3 h _ _ hP hD hS _ (lv_sub hl [1, 2, 0] rfl)
  exact L18 FU (1 : Int32) r_13 h _ _ hP hD hS _ (lv_sub hl [1, 0] rfl)
set_option maxHeartbeats 4000000 in
set_option maxRecDepth 100000 in
theorem mtX2_treeRow (l : Launch) (D : va_G) (cI cJ cO : ClassId) (PL : va_W) (sz : Nat) (r0 : (Nat → Int64)) (h : fX2_treeRow = some r0) : Met l yX2_treeRow (rk_w yX2_treeRow cX2_treeRow 5 (some (.array .long))) rmX2_treeRow (va_Pc [] (rk_B D (rk_TY cI cJ cO) [] [] PL sz)) (rk_Qr D (fun ra => [(ra, .inl (cJ, 31, .inr (.inl r0)))]) [] sz) 1 31 (va_A [] sz) := by
  refine rk_metr (Or.inr ⟨_, rfl⟩) h (fun x ra => [(ra, .inl (cJ, 31, .inr (.inl x)))]) (by decide) (Nat.le_of_ble_eq_true rfl) ?_
  intro p e s m args below meth c A ls Q hret hname hF hP hD hA hV hR0 hn hPL hnl hl h hS
  have hx := hF.1
  have hb := hF.2.1
  have hml := hF.2.2.1
  have hown : s.vm.findClass RX2 = some m.cls := hF.2.2.2.1
  have htc := hF.2.2.2.2
  have hP : va_P D vwCl [] s.heap := hP
  have hD : va_D A [] := hD
  have hR0 : va_P D vwCl [] s.heap := hR0
  have hR := hR0
  have hl : lv_has ls 5 [] := hl
  unfold fX2_treeRow at h
  refine lv_bipush (v := 31) hx hb dX2_treeRow_0 (by decide) ?_
  refine rk_newJ (N := 31) hx hb (htc _ w_1_84) hV hP hD hS hA rfl (by decide) (by decide) (Nat.le_of_ble_eq_true rfl) (Nat.le_of_ble_eq_true rfl) (Nat.le_of_ble_eq_true rfl) dX2_treeRow_2 (fun q_2 H hP hD hS => ?_)
  have hP : va_P D vwCl [(q_2, .inl (cJ, 31, .inr (.inl rk_z64)))] H := hP
  have hD : va_D A [(q_2, .inl (cJ, 31, .inr (.inl rk_z64)))] := hD
  refine lv_astore_n (lv' := [(0, .ref q_2)]) hx hb dX2_treeRow_4 rfl hl (by decide) rfl (fun ls hl => ?_)
  refine lv_aload_n hx hb dX2_treeRow_5 rfl (lv_at hl 0 rfl) ?_
  refine lv_iconst (v := 0) hx hb dX2_treeRow_6 (by decide) ?_
  refine lv_lconst (v := 1) hx hb dX2_treeRow_7 (by decide) ?_
  obtain ⟨r_8, hc_8, h⟩ := rk_bd h
  refine rk_v (wr := []) (va_runSN (As := [.ref q_2, .int (0 : Int32), .long (1 : Int64)]) (rest := []) hF (mtX9_set_ l D cI cJ cO PL _ q_2 31 rk_z64 (0 : Int32) (1 : Int64) r_8 hc_8) ⟨va_cnB 3 htc (rk_gw w_1_37) rfl rfl rfl (hV.2.1 _ nw_1_35) (htc _ w_1_1) (by decide +kernel) ⟨(Nat.le_of_ble_eq_true rfl), (Nat.le_of_ble_eq_true rfl)⟩, htc _ w_1_36, trivial⟩ (rk_preS hP hD hS rk_nilP hn hPL hnl hV [0] [] rfl (by decide) rfl (by decide)) rfl rfl hl.1 rfl (lv_room (Nat.le_of_ble_eq_true rfl)) dX2_treeRow_8 ⟨(Nat.le_of_ble_eq_true rfl), (Nat.le_of_ble_eq_true rfl)⟩) hP hD hS hA hR0 hn [0] [] rfl rfl (by decide) (by decide) (fun H locs hP hD hS hR => ?_)
  have hP : va_P D vwCl [(q_2, .inl (cJ, 31, .inr (.inl r_8)))] H := hP
  have hD : va_D A [(q_2, .inl (cJ, 31, .inr (.inl r_8)))] := hD
  refine lv_iconst (v := 1) hx hb dX2_treeRow_11 (by decide) ?_
  refine lv_istore_n (lv' := [(1, .int (1 : Int32)), (0, .ref q_2)]) hx hb dX2_treeRow_12 rfl hl (by decide) rfl (fun ls hl => ?_)
  have L13 : ∀ (n13 : Nat) (b13_l1 : Int32) (b13_c_new_2 : Nat → Int64), rk_it2 (fX2_treeRow_L13) n13 b13_l1 b13_c_new_2 = some r0 → ∀ (H : Heap) (locs : List Loc), va_P D vwCl [(q_2, .inl (cJ, 31, .inr (.inl b13_c_new_2)))] H → va_D A [(q_2, .inl (cJ, 31, .inr (.inl b13_c_new_2)))] → va_S A s.heap H locs → ∀ (ls : Array Slot), lv_has ls 5 [(0, .ref q_2), (1, .int b13_l1)] → W p l e rmX2_treeRow s m args below meth c H locs 1 31 Q (F0 m 13 ls []) := by
    intro n13
    induction n13 with
    | zero => intro b13_l1 b13_c_new_2 h; exact rk_no h
    | succ n13 ih13 =>
      intro b13_l1 b13_c_new_2 h H locs hP hD hS ls hl
      have h : fX2_treeRow_L13 (rk_it2 (fX2_treeRow_L13) n13) b13_l1 b13_c_new_2 = some r0 := h
      unfold fX2_treeRow_L13 at h
      refine lv_iload_n hx hb dX2_treeRow_13 rfl (lv_at hl 1 rfl) ?_
      refine lv_bipush (v := 30) hx hb dX2_treeRow_14 (by decide) ?_
      refine lv_icmp_gt (tgt := 68) hx hb dX2_treeRow_16 (by decide) (fun hc1 => ?_) (fun hc1 => ?_)
      · have h := rk_if hc1 h
        refine lv_aload_n hx hb dX2_treeRow_68 rfl (lv_at hl 0 rfl) ?_
        refine W.widen (k := 1) (n := 31) (Nat.le_of_ble_eq_true rfl) (Nat.le_of_ble_eq_true rfl) ?_
        exact hret b13_c_new_2 q_2 _ _ _ _ h dX2_treeRow_69 hP hD hS
      · have h := rk_nif hc1 h
        refine lv_lconst (v := 0) hx hb dX2_treeRow_19 (by decide) ?_
        refine lv_lstore_n (lv' := [(2, .long (0 : Int64)), (0, .ref q_2), (1, .int b13_l1)]) hx hb dX2_treeRow_20 rfl hl (by decide) rfl (fun ls hl => ?_)
        refine lv_iconst (v := 0) hx hb dX2_treeRow_21 (by decide) ?_
        refine lv_istore (lv' := [(4, .int (0 : Int32)), (2, .long (0 : Int64)), (0, .ref q_2), (1, .int b13_l1)]) hx hb dX2_treeRow_22 hl (by decide) rfl (fun ls hl => ?_)
        have L24 : ∀ (n24 : Nat) (b24_l2 : Int64) (b24_l4 : Int32), rk_it2 (fX2_treeRow_L24 b13_l1 b13_c_new_2 (rk_it2 (fX2_treeRow_L13) n13)) n24 b24_l2 b24_l4 = some r0 → ∀ (H : Heap) (locs : List Loc), va_P D vwCl [(q_2, .inl (cJ, 31, .inr (.inl b13_c_new_2)))] H → va_D A [(q_2, .inl (cJ, 31, .inr (.inl b13_c_new_2)))] → va_S A s.heap H locs → ∀ (ls : Array Slot), lv_has ls 5 [(0, .ref q_2), (1, .int b13_l1), (2, .long b24_l2), (4, .int b24_l4)] → W p l e rmX2_treeRow s m args below meth c H locs 1 31 Q (F0 m 24 ls []) := by
          intro n24
          induction n24 with
          | zero => intro b24_l2 b24_l4 h; exact rk_no h
          | succ n24 ih24 =>
            intro b24_l2 b24_l4 h H locs hP hD hS ls hl
            have h : fX2_treeRow_L24 b13_l1 b13_c_new_2 (rk_it2 (fX2_treeRow_L13) n13) (rk_it2 (fX2_treeRow_L24 b13_l1 b13_c_new_2 (rk_it2 (fX2_treeRow_L13) n13)) n24) b24_l2 b24_l4 = some r0 := h
            unfold fX2_treeRow_L24 at h
            refine lv_iload hx hb dX2_treeRow_24 (lv_at hl 3 rfl) ?_
            refine lv_iload_n hx hb dX2_treeRow_26 rfl (lv_at hl 1 rfl) ?_
            refine lv_icmp_ge (tgt := 56) hx hb dX2_treeRow_27 (by decide) (fun hc2 => ?_) (fun hc2 => ?_)
            · have h := rk_if hc2 h
              refine lv_aload_n hx hb dX2_treeRow_56 rfl (lv_at hl 0 rfl) ?_
              refine lv_iload_n hx hb dX2_treeRow_57 rfl (lv_at hl 1 rfl) ?_
              refine lv_lload_n hx hb dX2_treeRow_58 rfl (lv_at hl 2 rfl) ?_
              obtain ⟨r_59, hc_59, h⟩ := rk_bd h
              refine rk_v (wr := []) (va_runSN (As := [.ref q_2, .int b13_l1, .long b24_l2]) (rest := []) hF (mtX9_set_ l D cI cJ cO PL _ q_2 31 b13_c_new_2 b13_l1 b24_l2 r_59 hc_59) ⟨va_cnB 3 htc (rk_gw w_1_37) rfl rfl rfl (hV.2.1 _ nw_1_35) (htc _ w_1_1) (by decide +kernel) ⟨(Nat.le_of_ble_eq_true rfl), (Nat.le_of_ble_eq_true rfl)⟩, htc _ w_1_36, trivial⟩ (rk_preS hP hD hS rk_nilP hn hPL hnl hV [0] [] rfl (by decide) rfl (by decide)) rfl rfl hl.1 rfl (lv_room (Nat.le_of_ble_eq_true rfl)) dX2_treeRow_59 ⟨(Nat.le_of_ble_eq_true rfl), (Nat.le_of_ble_eq_true rfl)⟩) hP hD hS hA hR0 hn [0] [] rfl rfl (by decide) (by decide) (fun H locs hP hD hS hR => ?_)
              have hP : va_P D vwCl [(q_2, .inl (cJ, 31, .inr (.inl r_59)))] H := hP
              have hD : va_D A [(q_2, .inl (cJ, 31, .inr (.inl r_59)))] := hD
              refine lv_iinc (v := (b13_l1 + 1)) (lv' := [(1, .int (b13_l1 + 1)), (0, .ref q_2), (2, .long b24_l2), (4, .int b24_l4)]) hx hb dX2_treeRow_62 hl (k := 1) rfl rfl (by decide) rfl (fun ls hl => ?_)
              refine lv_goto (tgt := 13) hx hb dX2_treeRow_65 (by decide) ?_
              exact ih13 (b13_l1 + 1) r_59 h _ _ hP hD hS _ (lv_sub hl [1, 0] rfl)
            · have h := rk_nif hc2 h
              refine lv_lload_n hx hb dX2_treeRow_30 rfl (lv_at hl 2 rfl) ?_
              refine lv_aload_n hx hb dX2_treeRow_31 rfl (lv_at hl 0 rfl) ?_
              refine lv_iload hx hb dX2_treeRow_32 (lv_at hl 3 rfl) ?_
              obtain ⟨r_34, hc_34, h⟩ := rk_bd h
              refine rk_l (wr := [(q_2, .inl (cJ, 31, .inr (.inl b13_c_new_2)))]) (va_runSN (As := [.ref q_2, .int b24_l4]) (rest := [.long b24_l2]) hF (mtX9_at_ l D cI cJ cO PL _ q_2 31 b13_c_new_2 b24_l4 r_34 hc_34) ⟨va_cnB 2 htc (rk_gw w_1_40) rfl rfl rfl (hV.2.1 _ nw_1_38) (htc _ w_1_1) (by decide +kernel) ⟨(Nat.le_of_ble_eq_true rfl), (Nat.le_of_ble_eq_true rfl)⟩, htc _ w_1_39, trivial⟩ (rk_preS hP hD hS rk_nilP hn hPL hnl hV [] [(true, 0)] rfl (by decide) rfl (by decide)) rfl rfl hl.1 rfl (lv_room (Nat.le_of_ble_eq_true rfl)) dX2_treeRow_34 ⟨(Nat.le_of_ble_eq_true rfl), (Nat.le_of_ble_eq_true rfl)⟩) hP hD hS hA hR0 hn [] [0] rfl rfl (by decide) (by decide) (fun H locs hP hD hS hR => ?_)
              have hP : va_P D vwCl [(q_2, .inl (cJ, 31, .inr (.inl b13_c_new_2)))] H := hP
              have hD : va_D A [(q_2, .inl (cJ, 31, .inr (.inl b13_c_new_2)))] := hD
              refine lv_aload_n hx hb dX2_treeRow_37 rfl (lv_at hl 0 rfl) ?_
              refine lv_iload_n hx hb dX2_treeRow_38 rfl (lv_at hl 1 rfl) ?_
              refine lv_iconst (v := 1) hx hb dX2_treeRow_39 (by decide) ?_
              refine lv_isub hx hb dX2_treeRow_40 ?_
              refine lv_iload hx hb dX2_treeRow_41 (lv_at hl 3 rfl) ?_
              refine lv_isub hx hb dX2_treeRow_43 ?_
              obtain ⟨r_44, hc_44, h⟩ := rk_bd h
              refine rk_l (wr := [(q_2, .inl (cJ, 31, .inr (.inl b13_c_new_2)))]) (va_runSN (As := [.ref q_2, .int ((b13_l1 - (1 : Int32)) - b24_l4)]) (rest := [.long r_34, .long b24_l2]) hF (mtX9_at_ l D cI cJ cO PL _ q_2 31 b13_c_new_2 ((b13_l1 - (1 : Int32)) - b24_l4) r_44 hc_44) ⟨va_cnB 2 htc (rk_gw w_1_40) rfl rfl rfl (hV.2.1 _ nw_1_38) (htc _ w_1_1) (by decide +kernel) ⟨(Nat.le_of_ble_eq_true rfl), (Nat.le_of_ble_eq_true rfl)⟩, htc _ w_1_39, trivial⟩ (rk_preS hP hD hS rk_nilP hn hPL hnl hV [] [(true, 0)] rfl (by decide) rfl (by decide)) rfl rfl hl.1 rfl (lv_room (Nat.le_of_ble_eq_true rfl)) dX2_treeRow_44 ⟨(Nat.le_of_ble_eq_true rfl), (Nat.le_of_ble_eq_true rfl)⟩) hP hD hS hA hR0 hn [] [0] rfl rfl (by decide) (by decide) (fun H locs hP hD hS hR => ?_)
              have hP : va_P D vwCl [(q_2, .inl (cJ, 31, .inr (.inl b13_c_new_2)))] H := hP
              have hD : va_D A [(q_2, .inl (cJ, 31, .inr (.inl b13_c_new_2)))] := hD
              refine lv_lmul hx hb dX2_treeRow_47 ?_
              refine lv_ladd hx hb dX2_treeRow_48 ?_
              refine lv_lstore_n (lv' := [(2, .long (b24_l2 + (r_34 * r_44))), (0, .ref q_2), (1, .int b13_l1), (4, .int b24_l4)]) hx hb dX2_treeRow_49 rfl hl (by decide) rfl (fun ls hl => ?_)
              refine lv_iinc (v := (b24_l4 + 1)) (lv' := [(4, .int (b24_l4 + 1)), (2, .long (b24_l2 + (r_34 * r_44))), (0, .ref q_2), (1, .int b13_l1)]) hx hb dX2_treeRow_50 hl (k := 3) rfl rfl (by decide) rfl (fun ls hl => ?_)
              refine lv_goto (tgt := 24) hx hb dX2_treeRow_53 (by decide) ?_
              exact ih24 (b24_l2 + (r_34 * r_44)) (b24_l4 + 1) h _ _ hP hD hS _ (lv_sub hl [2, 3, 1, 0] rfl)
        exact L24 FU (0 : Int64) (0 : Int32) h _ _ hP hD hS _ (lv_sub hl [2, 3, 1, 0] rfl)
  exact L13 FU (1 : Int32) r_8 h _ _ hP hD hS _ (lv_sub hl [1, 0] rfl)
set_option maxHeartbeats 4000000 in
set_option maxRecDepth 100000 in
theorem mtX2_init (l : Launch) (D : va_G) (cI cJ cO : ClassId) (PL : va_W) (sz : Nat) (a_this : Nat) (r0 : (Nat → Int64) × (Nat → Int32) × (Nat → Int64)) (h : fX2_init = some r0) : Met l yX2_init (rk_w yX2_init cX2_init 1 none) rmX2_init (va_Pc [.ref a_this] (rk_B D (rk_TY cI cJ cO) [(a_this, .inr (2, [.null, .null, .null, .null, .null, .null, .null]))] [] PL sz)) (rk_Qve D (fun q => [(a_this, .inr (2, [.ref (q 0), .ref (q 1), .ref (q 2), .ref (q 3), .ref (q 4), .ref (q 5), .ref (q 6)])), ((q 0), .inl (cJ, 1891, .inr (.inl r0.1))), ((q 1), .inl (cI, 1891, .inl r0.2.1)), ((q 2), .inl (cJ, 31, .inr (.inl r0.2.2))), ((q 3), .inl (cI, 60, .inl rk_z32)), ((q 4), .inl (cI, 60, .inl rk_z32)), ((q 5), .inl (cJ, 60, .inr (.inl rk_z64))), ((q 6), .inl (cI, 4, .inl rk_z32))]) [(a_this, .inr (2, [.null, .null, .null, .null, .null, .null, .null]))] sz) 7 3997 (va_A [(a_this, .inr (2, [.null, .null, .null, .null, .null, .null, .null]))] sz) := by
  refine rk_metve h (fun x q => [(a_this, .inr (2, [.ref (q 0), .ref (q 1), .ref (q 2), .ref (q 3), .ref (q 4), .ref (q 5), .ref (q 6)])), ((q 0), .inl (cJ, 1891, .inr (.inl x.1))), ((q 1), .inl (cI, 1891, .inl x.2.1)), ((q 2), .inl (cJ, 31, .inr (.inl x.2.2))), ((q 3), .inl (cI, 60, .inl rk_z32)), ((q 4), .inl (cI, 60, .inl rk_z32)), ((q 5), .inl (cJ, 60, .inr (.inl rk_z64))), ((q 6), .inl (cI, 4, .inl rk_z32))]) (by decide) (Nat.le_of_ble_eq_true rfl) ?_
  intro p e s m args below meth c A ls Q hret hname hF hP hD hA hV hR0 hn hPL hnl hl h hS
  have hx := hF.1
  have hb := hF.2.1
  have hml := hF.2.2.1
  have hown : s.vm.findClass RX2 = some m.cls := hF.2.2.2.1
  have htc := hF.2.2.2.2
  have hname : meth.name = "<init>" := hname
  have hP : va_P D vwCl [(a_this, .inr (2, [.null, .null, .null, .null, .null, .null, .null]))] s.heap := hP
  have hD : va_D A [(a_this, .inr (2, [.null, .null, .null, .null, .null, .null, .null]))] := hD
  have hR0 : va_P D vwCl [] s.heap := hR0
  have hR := hR0
  have hl : lv_has ls 1 [(0, .ref a_this)] := hl
  unfold fX2_init at h
  refine lv_aload_n hx hb dX2_init_0 rfl (lv_at hl 0 rfl) ?_
  refine W.objInit hx hb hown (htc _ w_1_28) (htc _ w_1_21) (htc _ w_1_22) rfl (by rw [hml]; exact hl.1) rfl dX2_init_1 (Nat.le_of_ble_eq_true rfl) (Nat.le_of_ble_eq_true rfl) ?_
  refine W.eq (g2 := F0 m 4 ls []) rfl ?_
  refine lv_aload_n hx hb dX2_init_4 rfl (lv_at hl 0 rfl) ?_
  obtain ⟨r_5, hc_5, h⟩ := rk_bd h
  refine rk_r (wr := [(a_this, .inr (2, [.null, .null, .null, .null, .null, .null, .null]))]) (va_runS (As := []) (rest := [.ref a_this]) hF (mtX2_binomialTriangle l D cI cJ cO PL _  r_5 hc_5) (va_cwS 0 htc (rk_gVS w_1_29 w_1_30 w_1_2 w_1_31) rfl rfl rfl (by decide +kernel) ⟨(Nat.le_of_ble_eq_true rfl), (Nat.le_of_ble_eq_true rfl)⟩) (rk_preS hP hD hS rk_nilP hn hPL hnl hV [] [] rfl (by decide) rfl (by decide)) rfl rfl hl.1 rfl (lv_room (Nat.le_of_ble_eq_true rfl)) dX2_init_5 ⟨(Nat.le_of_ble_eq_true rfl), (Nat.le_of_ble_eq_true rfl)⟩) hP hD hS hA hR0 hn [] [0] rfl rfl (by decide) (by decide) (fun q_5 H locs hP hD hS hR => ?_)
  have hP : va_P D vwCl [(a_this, .inr (2, [.null, .null, .null, .null, .null, .null, .null])), (q_5, .inl (cJ, 1891, .inr (.inl r_5)))] H := hP
  have hD : va_D A [(a_this, .inr (2, [.null, .null, .null, .null, .null, .null, .null])), (q_5, .inl (cJ, 1891, .inr (.inl r_5)))] := hD
  refine va_putF (D := D) (ci := 2) (v := .ref q_5) (ty := (.array .long)) (C := RX2) (T := TX2) (N := 7) hx hb htc inX2 tyX2 tyX2_ok nmX2 hown hV.1 hP hD hS 0 rfl rfl 0 (by decide) (htc _ w_1_56) (fun _ h9 => h9) rfl hname rfl (by decide +kernel) rfl rfl (Nat.le_of_ble_eq_true rfl) dX2_init_8 (fun H locs hP hD hS => ?_)
  have hP : va_P D vwCl [(a_this, .inr (2, [.ref q_5, .null, .null, .null, .null, .null, .null])), (q_5, .inl (cJ, 1891, .inr (.inl r_5)))] H := hP
  have hD : va_D A [(a_this, .inr (2, [.ref q_5, .null, .null, .null, .null, .null, .null])), (q_5, .inl (cJ, 1891, .inr (.inl r_5)))] := hD
  refine lv_aload_n hx hb dX2_init_11 rfl (lv_at hl 0 rfl) ?_
  obtain ⟨r_12, hc_12, h⟩ := rk_bd h
  refine rk_r (wr := [(a_this, .inr (2, [.ref q_5, .null, .null, .null, .null, .null, .null])), (q_5, .inl (cJ, 1891, .inr (.inl r_5)))]) (va_runS (As := []) (rest := [.ref a_this]) hF (mtX2_partitionTriangle l D cI cJ cO PL _  r_12 hc_12) (va_cwS 0 htc (rk_gVS w_1_41 w_1_42 w_1_2 w_1_43) rfl rfl rfl (by decide +kernel) ⟨(Nat.le_of_ble_eq_true rfl), (Nat.le_of_ble_eq_true rfl)⟩) (rk_preS hP hD hS rk_nilP hn hPL hnl hV [] [] rfl (by decide) rfl (by decide)) rfl rfl hl.1 rfl (lv_room (Nat.le_of_ble_eq_true rfl)) dX2_init_12 ⟨(Nat.le_of_ble_eq_true rfl), (Nat.le_of_ble_eq_true rfl)⟩) hP hD hS hA hR0 hn [] [0, 1] rfl rfl (by decide) (by decide) (fun q_12 H locs hP hD hS hR => ?_)
  have hP : va_P D vwCl [(a_this, .inr (2, [.ref q_5, .null, .null, .null, .null, .null, .null])), (q_5, .inl (cJ, 1891, .inr (.inl r_5))), (q_12, .inl (cI, 1891, .inl r_12))] H := hP
  have hD : va_D A [(a_this, .inr (2, [.ref q_5, .null, .null, .null, .null, .null, .null])), (q_5, .inl (cJ, 1891, .inr (.inl r_5))), (q_12, .inl (cI, 1891, .inl r_12))] := hD
  refine va_putF (D := D) (ci := 2) (v := .ref q_12) (ty := (.array .int)) (C := RX2) (T := TX2) (N := 7) hx hb htc inX2 tyX2 tyX2_ok nmX2 hown hV.1 hP hD hS 0 rfl rfl 1 (by decide) (htc _ w_1_57) (fun _ h9 => h9) rfl hname rfl (by decide +kernel) rfl rfl (Nat.le_of_ble_eq_true rfl) dX2_init_15 (fun H locs hP hD hS => ?_)
  have hP : va_P D vwCl [(a_this, .inr (2, [.ref q_5, .ref q_12, .null, .null, .null, .null, .null])), (q_5, .inl (cJ, 1891, .inr (.inl r_5))), (q_12, .inl (cI, 1891, .inl r_12))] H := hP
  have hD : va_D A [(a_this, .inr (2, [.ref q_5, .ref q_12, .null, .null, .null, .null, .null])), (q_5, .inl (cJ, 1891, .inr (.inl r_5))), (q_12, .inl (cI, 1891, .inl r_12))] := hD
  refine lv_aload_n hx hb dX2_init_18 rfl (lv_at hl 0 rfl) ?_
  obtain ⟨r_19, hc_19, h⟩ := rk_bd h
  refine rk_r (wr := [(a_this, .inr (2, [.ref q_5, .ref q_12, .null, .null, .null, .null, .null])), (q_5, .inl (cJ, 1891, .inr (.inl r_5))), (q_12, .inl (cI, 1891, .inl r_12))]) (va_runS (As := []) (rest := [.ref a_this]) hF (mtX2_treeRow l D cI cJ cO PL _  r_19 hc_19) (va_cwS 0 htc (rk_gVS w_1_53 w_1_54 w_1_2 w_1_55) rfl rfl rfl (by decide +kernel) ⟨(Nat.le_of_ble_eq_true rfl), (Nat.le_of_ble_eq_true rfl)⟩) (rk_preS hP hD hS rk_nilP hn hPL hnl hV [] [] rfl (by decide) rfl (by decide)) rfl rfl hl.1 rfl (lv_room (Nat.le_of_ble_eq_true rfl)) dX2_init_19 ⟨(Nat.le_of_ble_eq_true rfl), (Nat.le_of_ble_eq_true rfl)⟩) hP hD hS hA hR0 hn [] [0, 1, 2] rfl rfl (by decide) (by decide) (fun q_19 H locs hP hD hS hR => ?_)
  have hP : va_P D vwCl [(a_this, .inr (2, [.ref q_5, .ref q_12, .null, .null, .null, .null, .null])), (q_5, .inl (cJ, 1891, .inr (.inl r_5))), (q_12, .inl (cI, 1891, .inl r_12)), (q_19, .inl (cJ, 31, .inr (.inl r_19)))] H := hP
  have hD : va_D A [(a_this, .inr (2, [.ref q_5, .ref q_12, .null, .null, .null, .null, .null])), (q_5, .inl (cJ, 1891, .inr (.inl r_5))), (q_12, .inl (cI, 1891, .inl r_12)), (q_19, .inl (cJ, 31, .inr (.inl r_19)))] := hD
  refine va_putF (D := D) (ci := 2) (v := .ref q_19) (ty := (.array .long)) (C := RX2) (T := TX2) (N := 7) hx hb htc inX2 tyX2 tyX2_ok nmX2 hown hV.1 hP hD hS 0 rfl rfl 2 (by decide) (htc _ w_1_58) (fun _ h9 => h9) rfl hname rfl (by decide +kernel) rfl rfl (Nat.le_of_ble_eq_true rfl) dX2_init_22 (fun H locs hP hD hS => ?_)
  have hP : va_P D vwCl [(a_this, .inr (2, [.ref q_5, .ref q_12, .ref q_19, .null, .null, .null, .null])), (q_5, .inl (cJ, 1891, .inr (.inl r_5))), (q_12, .inl (cI, 1891, .inl r_12)), (q_19, .inl (cJ, 31, .inr (.inl r_19)))] H := hP
  have hD : va_D A [(a_this, .inr (2, [.ref q_5, .ref q_12, .ref q_19, .null, .null, .null, .null])), (q_5, .inl (cJ, 1891, .inr (.inl r_5))), (q_12, .inl (cI, 1891, .inl r_12)), (q_19, .inl (cJ, 31, .inr (.inl r_19)))] := hD
  refine lv_aload_n hx hb dX2_init_25 rfl (lv_at hl 0 rfl) ?_
  refine lv_bipush (v := 60) hx hb dX2_init_26 (by decide) ?_
  refine rk_newI (N := 60) hx hb (htc _ w_1_83) hV hP hD hS hA rfl (by decide) (by decide) (Nat.le_of_ble_eq_true rfl) (Nat.le_of_ble_eq_true rfl) (Nat.le_of_ble_eq_true rfl) dX2_init_28 (fun q_28 H hP hD hS => ?_)
  have hP : va_P D vwCl [(a_this, .inr (2, [.ref q_5, .ref q_12, .ref q_19, .null, .null, .null, .null])), (q_5, .inl (cJ, 1891, .inr (.inl r_5))), (q_12, .inl (cI, 1891, .inl r_12)), (q_19, .inl (cJ, 31, .inr (.inl r_19))), (q_28, .inl (cI, 60, .inl rk_z32))] H := hP
  have hD : va_D A [(a_this, .inr (2, [.ref q_5, .ref q_12, .ref q_19, .null, .null, .null, .null])), (q_5, .inl (cJ, 1891, .inr (.inl r_5))), (q_12, .inl (cI, 1891, .inl r_12)), (q_19, .inl (cJ, 31, .inr (.inl r_19))), (q_28, .inl (cI, 60, .inl rk_z32))] := hD
  refine va_putF (D := D) (ci := 2) (v := .ref q_28) (ty := (.array .int)) (C := RX2) (T := TX2) (N := 7) hx hb htc inX2 tyX2 tyX2_ok nmX2 hown hV.1 hP hD hS 0 rfl rfl 3 (by decide) (htc _ w_1_59) (fun _ h9 => h9) rfl hname rfl (by decide +kernel) rfl rfl (Nat.le_of_ble_eq_true rfl) dX2_init_30 (fun H locs hP hD hS => ?_)
  have hP : va_P D vwCl [(a_this, .inr (2, [.ref q_5, .ref q_12, .ref q_19, .ref q_28, .null, .null, .null])), (q_5, .inl (cJ, 1891, .inr (.inl r_5))), (q_12, .inl (cI, 1891, .inl r_12)), (q_19, .inl (cJ, 31, .inr (.inl r_19))), (q_28, .inl (cI, 60, .inl rk_z32))] H := hP
  have hD : va_D A [(a_this, .inr (2, [.ref q_5, .ref q_12, .ref q_19, .ref q_28, .null, .null, .null])), (q_5, .inl (cJ, 1891, .inr (.inl r_5))), (q_12, .inl (cI, 1891, .inl r_12)), (q_19, .inl (cJ, 31, .inr (.inl r_19))), (q_28, .inl (cI, 60, .inl rk_z32))] := hD
  refine lv_aload_n hx hb dX2_init_33 rfl (lv_at hl 0 rfl) ?_
  refine lv_bipush (v := 60) hx hb dX2_init_34 (by decide) ?_
  refine rk_newI (N := 60) hx hb (htc _ w_1_83) hV hP hD hS hA rfl (by decide) (by decide) (Nat.le_of_ble_eq_true rfl) (Nat.le_of_ble_eq_true rfl) (Nat.le_of_ble_eq_true rfl) dX2_init_36 (fun q_36 H hP hD hS => ?_)
  have hP : va_P D vwCl [(a_this, .inr (2, [.ref q_5, .ref q_12, .ref q_19, .ref q_28, .null, .null, .null])), (q_5, .inl (cJ, 1891, .inr (.inl r_5))), (q_12, .inl (cI, 1891, .inl r_12)), (q_19, .inl (cJ, 31, .inr (.inl r_19))), (q_28, .inl (cI, 60, .inl rk_z32)), (q_36, .inl (cI, 60, .inl rk_z32))] H := hP
  have hD : va_D A [(a_this, .inr (2, [.ref q_5, .ref q_12, .ref q_19, .ref q_28, .null, .null, .null])), (q_5, .inl (cJ, 1891, .inr (.inl r_5))), (q_12, .inl (cI, 1891, .inl r_12)), (q_19, .inl (cJ, 31, .inr (.inl r_19))), (q_28, .inl (cI, 60, .inl rk_z32)), (q_36, .inl (cI, 60, .inl rk_z32))] := hD
  refine va_putF (D := D) (ci := 2) (v := .ref q_36) (ty := (.array .int)) (C := RX2) (T := TX2) (N := 7) hx hb htc inX2 tyX2 tyX2_ok nmX2 hown hV.1 hP hD hS 0 rfl rfl 4 (by decide) (htc _ w_1_61) (fun _ h9 => h9) rfl hname rfl (by decide +kernel) rfl rfl (Nat.le_of_ble_eq_true rfl) dX2_init_38 (fun H locs hP hD hS => ?_)
  have hP : va_P D vwCl [(a_this, .inr (2, [.ref q_5, .ref q_12, .ref q_19, .ref q_28, .ref q_36, .null, .null])), (q_5, .inl (cJ, 1891, .inr (.inl r_5))), (q_12, .inl (cI, 1891, .inl r_12)), (q_19, .inl (cJ, 31, .inr (.inl r_19))), (q_28, .inl (cI, 60, .inl rk_z32)), (q_36, .inl (cI, 60, .inl rk_z32))] H := hP
  have hD : va_D A [(a_this, .inr (2, [.ref q_5, .ref q_12, .ref q_19, .ref q_28, .ref q_36, .null, .null])), (q_5, .inl (cJ, 1891, .inr (.inl r_5))), (q_12, .inl (cI, 1891, .inl r_12)), (q_19, .inl (cJ, 31, .inr (.inl r_19))), (q_28, .inl (cI, 60, .inl rk_z32)), (q_36, .inl (cI, 60, .inl rk_z32))] := hD
  refine lv_aload_n hx hb dX2_init_41 rfl (lv_at hl 0 rfl) ?_
  refine lv_bipush (v := 60) hx hb dX2_init_42 (by decide) ?_
  refine rk_newJ (N := 60) hx hb (htc _ w_1_84) hV hP hD hS hA rfl (by decide) (by decide) (Nat.le_of_ble_eq_true rfl) (Nat.le_of_ble_eq_true rfl) (Nat.le_of_ble_eq_true rfl) dX2_init_44 (fun q_44 H hP hD hS => ?_)
  have hP : va_P D vwCl [(a_this, .inr (2, [.ref q_5, .ref q_12, .ref q_19, .ref q_28, .ref q_36, .null, .null])), (q_5, .inl (cJ, 1891, .inr (.inl r_5))), (q_12, .inl (cI, 1891, .inl r_12)), (q_19, .inl (cJ, 31, .inr (.inl r_19))), (q_28, .inl (cI, 60, .inl rk_z32)), (q_36, .inl (cI, 60, .inl rk_z32)), (q_44, .inl (cJ, 60, .inr (.inl rk_z64)))] H := hP
  have hD : va_D A [(a_this, .inr (2, [.ref q_5, .ref q_12, .ref q_19, .ref q_28, .ref q_36, .null, .null])), (q_5, .inl (cJ, 1891, .inr (.inl r_5))), (q_12, .inl (cI, 1891, .inl r_12)), (q_19, .inl (cJ, 31, .inr (.inl r_19))), (q_28, .inl (cI, 60, .inl rk_z32)), (q_36, .inl (cI, 60, .inl rk_z32)), (q_44, .inl (cJ, 60, .inr (.inl rk_z64)))] := hD
  refine va_putF (D := D) (ci := 2) (v := .ref q_44) (ty := (.array .long)) (C := RX2) (T := TX2) (N := 7) hx hb htc inX2 tyX2 tyX2_ok nmX2 hown hV.1 hP hD hS 0 rfl rfl 5 (by decide) (htc _ w_1_64) (fun _ h9 => h9) rfl hname rfl (by decide +kernel) rfl rfl (Nat.le_of_ble_eq_true rfl) dX2_init_46 (fun H locs hP hD hS => ?_)
  have hP : va_P D vwCl [(a_this, .inr (2, [.ref q_5, .ref q_12, .ref q_19, .ref q_28, .ref q_36, .ref q_44, .null])), (q_5, .inl (cJ, 1891, .inr (.inl r_5))), (q_12, .inl (cI, 1891, .inl r_12)), (q_19, .inl (cJ, 31, .inr (.inl r_19))), (q_28, .inl (cI, 60, .inl rk_z32)), (q_36, .inl (cI, 60, .inl rk_z32)), (q_44, .inl (cJ, 60, .inr (.inl rk_z64)))] H := hP
  have hD : va_D A [(a_this, .inr (2, [.ref q_5, .ref q_12, .ref q_19, .ref q_28, .ref q_36, .ref q_44, .null])), (q_5, .inl (cJ, 1891, .inr (.inl r_5))), (q_12, .inl (cI, 1891, .inl r_12)), (q_19, .inl (cJ, 31, .inr (.inl r_19))), (q_28, .inl (cI, 60, .inl rk_z32)), (q_36, .inl (cI, 60, .inl rk_z32)), (q_44, .inl (cJ, 60, .inr (.inl rk_z64)))] := hD
  refine lv_aload_n hx hb dX2_init_49 rfl (lv_at hl 0 rfl) ?_
  refine lv_iconst (v := 4) hx hb dX2_init_50 (by decide) ?_
  refine rk_newI (N := 4) hx hb (htc _ w_1_83) hV hP hD hS hA rfl (by decide) (by decide) (Nat.le_of_ble_eq_true rfl) (Nat.le_of_ble_eq_true rfl) (Nat.le_of_ble_eq_true rfl) dX2_init_51 (fun q_51 H hP hD hS => ?_)
  have hP : va_P D vwCl [(a_this, .inr (2, [.ref q_5, .ref q_12, .ref q_19, .ref q_28, .ref q_36, .ref q_44, .null])), (q_5, .inl (cJ, 1891, .inr (.inl r_5))), (q_12, .inl (cI, 1891, .inl r_12)), (q_19, .inl (cJ, 31, .inr (.inl r_19))), (q_28, .inl (cI, 60, .inl rk_z32)), (q_36, .inl (cI, 60, .inl rk_z32)), (q_44, .inl (cJ, 60, .inr (.inl rk_z64))), (q_51, .inl (cI, 4, .inl rk_z32))] H := hP
  have hD : va_D A [(a_this, .inr (2, [.ref q_5, .ref q_12, .ref q_19, .ref q_28, .ref q_36, .ref q_44, .null])), (q_5, .inl (cJ, 1891, .inr (.inl r_5))), (q_12, .inl (cI, 1891, .inl r_12)), (q_19, .inl (cJ, 31, .inr (.inl r_19))), (q_28, .inl (cI, 60, .inl rk_z32)), (q_36, .inl (cI, 60, .inl rk_z32)), (q_44, .inl (cJ, 60, .inr (.inl rk_z64))), (q_51, .inl (cI, 4, .inl rk_z32))] := hD
  refine va_putF (D := D) (ci := 2) (v := .ref q_51) (ty := (.array .int)) (C := RX2) (T := TX2) (N := 7) hx hb htc inX2 tyX2 tyX2_ok nmX2 hown hV.1 hP hD hS 0 rfl rfl 6 (by decide) (htc _ w_1_66) (fun _ h9 => h9) rfl hname rfl (by decide +kernel) rfl rfl (Nat.le_of_ble_eq_true rfl) dX2_init_53 (fun H locs hP hD hS => ?_)
  have hP : va_P D vwCl [(a_this, .inr (2, [.ref q_5, .ref q_12, .ref q_19, .ref q_28, .ref q_36, .ref q_44, .ref q_51])), (q_5, .inl (cJ, 1891, .inr (.inl r_5))), (q_12, .inl (cI, 1891, .inl r_12)), (q_19, .inl (cJ, 31, .inr (.inl r_19))), (q_28, .inl (cI, 60, .inl rk_z32)), (q_36, .inl (cI, 60, .inl rk_z32)), (q_44, .inl (cJ, 60, .inr (.inl rk_z64))), (q_51, .inl (cI, 4, .inl rk_z32))] H := hP
  have hD : va_D A [(a_this, .inr (2, [.ref q_5, .ref q_12, .ref q_19, .ref q_28, .ref q_36, .ref q_44, .ref q_51])), (q_5, .inl (cJ, 1891, .inr (.inl r_5))), (q_12, .inl (cI, 1891, .inl r_12)), (q_19, .inl (cJ, 31, .inr (.inl r_19))), (q_28, .inl (cI, 60, .inl rk_z32)), (q_36, .inl (cI, 60, .inl rk_z32)), (q_44, .inl (cJ, 60, .inr (.inl rk_z64))), (q_51, .inl (cI, 4, .inl rk_z32))] := hD
  refine W.widen (k := 7) (n := 3997) (Nat.le_of_ble_eq_true rfl) (Nat.le_of_ble_eq_true rfl) ?_
  exact hret (r_5, r_12, r_19) (rk_qs [q_5, q_12, q_19, q_28, q_36, q_44, q_51]) _ _ _ _ h dX2_init_56 hP hD hS
set_option maxHeartbeats 4000000 in
set_option maxRecDepth 100000 in
theorem mtX2_partitions (l : Launch) (D : va_G) (cI cJ cO : ClassId) (PL : va_W) (sz : Nat) (a_this : Nat) (a_this_binomials : Nat) (a_this_partitionCounts : Nat) (a_this_treeCounts : Nat) (a_this_sizes : Nat) (a_this_starts : Nat) (a_this_ranks : Nat) (a_this_letters : Nat) (c_this_partitionCounts : Nat → Int32) (v_p1 : Int32) (v_p2 : Int32) (r0 : Int32) (h : fX2_partitions c_this_partitionCounts v_p1 v_p2 = some r0) : Met l yX2_partitions (rk_w yX2_partitions cX2_partitions 3 (some .int)) rmX2_partitions (va_Pc [.ref a_this, .int v_p1, .int v_p2] (rk_B D (rk_TY cI cJ cO) [] [(a_this, .inr (2, [.ref a_this_binomials, .ref a_this_partitionCounts, .ref a_this_treeCounts, .ref a_this_sizes, .ref a_this_starts, .ref a_this_ranks, .ref a_this_letters])), (a_this_partitionCounts, .inl (cI, 1891, .inl c_this_partitionCounts))] PL sz)) (rk_Qi r0 D [] [] sz) 0 0 (va_A [] sz) := by
  refine rk_meti h (fun x : Int32 => x) (fun x => []) (by decide) (Nat.le_of_ble_eq_true rfl) ?_
  intro p e s m args below meth c A ls Q hret hname hF hP hD hA hV hR0 hn hPL hnl hl h hS
  have hx := hF.1
  have hb := hF.2.1
  have hml := hF.2.2.1
  have hown : s.vm.findClass RX2 = some m.cls := hF.2.2.2.1
  have htc := hF.2.2.2.2
  have hP : va_P D vwCl [] s.heap := hP
  have hD : va_D A [] := hD
  have hR0 : va_P D vwCl [(a_this, .inr (2, [.ref a_this_binomials, .ref a_this_partitionCounts, .ref a_this_treeCounts, .ref a_this_sizes, .ref a_this_starts, .ref a_this_ranks, .ref a_this_letters])), (a_this_partitionCounts, .inl (cI, 1891, .inl c_this_partitionCounts))] s.heap := hR0
  have hR := hR0
  have hl : lv_has ls 3 [(0, .ref a_this), (1, .int v_p1), (2, .int v_p2)] := hl
  unfold fX2_partitions at h
  refine lv_iload_n hx hb dX2_partitions_0 rfl (lv_at hl 1 rfl) ?_
  refine lv_if_lt (tgt := 14) hx hb dX2_partitions_1 (by decide) (fun hc1 => ?_) (fun hc1 => ?_)
  · have h := rk_if hc1 h
    refine lv_iconst (v := 0) hx hb dX2_partitions_14 (by decide) ?_
    exact hret (0 : Int32) _ _ _ _ h dX2_partitions_15 hP hD hS
  · have h := rk_nif hc1 h
    refine lv_iload_n hx hb dX2_partitions_4 rfl (lv_at hl 1 rfl) ?_
    refine lv_bipush (v := 60) hx hb dX2_partitions_5 (by decide) ?_
    refine lv_icmp_gt (tgt := 14) hx hb dX2_partitions_7 (by decide) (fun hc2 => ?_) (fun hc2 => ?_)
    · have h := rk_if hc2 h
      refine lv_iconst (v := 0) hx hb dX2_partitions_14 (by decide) ?_
      exact hret (0 : Int32) _ _ _ _ h dX2_partitions_15 hP hD hS
    · have h := rk_nif hc2 h
      refine lv_iload_n hx hb dX2_partitions_10 rfl (lv_at hl 2 rfl) ?_
      refine lv_if_ge (tgt := 16) hx hb dX2_partitions_11 (by decide) (fun hc3 => ?_) (fun hc3 => ?_)
      · have h := rk_if hc3 h
        refine lv_aload_n hx hb dX2_partitions_16 rfl (lv_at hl 0 rfl) ?_
        refine va_get (D := D) (ci := 2) (v := .ref a_this_partitionCounts) (C := RX2) (T := TX2) (N := 7) hx hb htc inX2 hown hV.1 hR 0 rfl rfl 1 (by decide) (htc _ w_1_57) (fun _ h9 => h9) rfl dX2_partitions_17 ?_
        refine lv_iload_n hx hb dX2_partitions_20 rfl (lv_at hl 1 rfl) ?_
        refine lv_iload_n hx hb dX2_partitions_21 rfl (lv_at hl 1 rfl) ?_
        refine lv_iload_n hx hb dX2_partitions_22 rfl (lv_at hl 2 rfl) ?_
        refine va_mmin hx hb (hml.trans hl.1.symm) hown (htc _ w_1_47) (htc _ w_1_48) (htc _ w_1_3) (htc _ w_1_49) (Nat.le_of_ble_eq_true rfl) (Nat.le_of_ble_eq_true rfl) (Nat.le_of_ble_eq_true rfl) (Nat.le_of_ble_eq_true rfl) dX2_partitions_23 ?_
        obtain ⟨r_26, hc_26, h⟩ := rk_bd h
        refine rk_i (wr := []) (va_runS (As := [.int v_p1, .int (if v_p2 < v_p1 then v_p2 else v_p1)]) (rest := [.ref a_this_partitionCounts]) hF (mtX2_spot l D cI cJ cO PL _ v_p1 (if v_p2 < v_p1 then v_p2 else v_p1) r_26 hc_26) (va_cwS 2 htc (rk_gVS w_1_32 w_1_33 w_1_2 w_1_34) rfl rfl rfl (by decide +kernel) ⟨(Nat.le_of_ble_eq_true rfl), (Nat.le_of_ble_eq_true rfl)⟩) (rk_preS hP hD hS hR hn hPL hnl hV [] [] rfl (by decide) rfl (by decide)) rfl rfl hl.1 rfl (lv_room (Nat.le_of_ble_eq_true rfl)) dX2_partitions_26 ⟨(Nat.le_of_ble_eq_true rfl), (Nat.le_of_ble_eq_true rfl)⟩) hP hD hS hA hR0 hn [] [] rfl rfl (by decide) (by decide) (fun H locs hP hD hS hR => ?_)
        have hP : va_P D vwCl [] H := hP
        have hD : va_D A [] := hD
        obtain ⟨r_29, hc_29, h⟩ := rk_bd h
        refine rk_i (wr := []) (va_runSN (As := [.ref a_this_partitionCounts, .int r_26]) (rest := []) hF (mtX9_at l D cI cJ cO PL _ a_this_partitionCounts 1891 c_this_partitionCounts r_26 r_29 hc_29) ⟨va_cnB 2 htc (rk_gw w_1_52) rfl rfl rfl (hV.2.1 _ nw_1_50) (htc _ w_1_1) (by decide +kernel) ⟨(Nat.le_of_ble_eq_true rfl), (Nat.le_of_ble_eq_true rfl)⟩, htc _ w_1_51, trivial⟩ (rk_preS hP hD hS hR hn hPL hnl hV [] [(false, 1)] rfl (by decide) rfl (by decide)) rfl rfl hl.1 rfl (lv_room (Nat.le_of_ble_eq_true rfl)) dX2_partitions_29 ⟨(Nat.le_of_ble_eq_true rfl), (Nat.le_of_ble_eq_true rfl)⟩) hP hD hS hA hR0 hn [] [] rfl rfl (by decide) (by decide) (fun H locs hP hD hS hR => ?_)
        have hP : va_P D vwCl [] H := hP
        have hD : va_D A [] := hD
        exact hret r_29 _ _ _ _ h dX2_partitions_32 hP hD hS
      · have h := rk_nif hc3 h
        refine lv_iconst (v := 0) hx hb dX2_partitions_14 (by decide) ?_
        exact hret (0 : Int32) _ _ _ _ h dX2_partitions_15 hP hD hS
set_option maxHeartbeats 4000000 in
set_option maxRecDepth 100000 in
theorem mtX2_wordEnds (l : Launch) (D : va_G) (cI cJ cO : ClassId) (PL : va_W) (sz : Nat) (a_this : Nat) (a_this_binomials : Nat) (a_this_partitionCounts : Nat) (a_this_treeCounts : Nat) (a_this_sizes : Nat) (a_this_starts : Nat) (a_this_ranks : Nat) (a_this_letters : Nat) (c_this_binomials : Nat → Int64) (v_p1 : Int32) (v_p2 : Int32) (v_p3 : Int32) (r0 : Int64) (h : fX2_wordEnds c_this_binomials v_p1 v_p2 v_p3 = some r0) : Met l yX2_wordEnds (rk_w yX2_wordEnds cX2_wordEnds 7 (some .long)) rmX2_wordEnds (va_Pc [.ref a_this, .int v_p1, .int v_p2, .int v_p3] (rk_B D (rk_TY cI cJ cO) [] [(a_this, .inr (2, [.ref a_this_binomials, .ref a_this_partitionCounts, .ref a_this_treeCounts, .ref a_this_sizes, .ref a_this_starts, .ref a_this_ranks, .ref a_this_letters])), (a_this_binomials, .inl (cJ, 1891, .inr (.inl c_this_binomials)))] PL sz)) (rk_Ql r0 D [] [] sz) 0 0 (va_A [] sz) := by
  refine rk_metl h (fun x : Int64 => x) (fun x => []) (by decide) (Nat.le_of_ble_eq_true rfl) ?_
  intro p e s m args below meth c A ls Q hret hname hF hP hD hA hV hR0 hn hPL hnl hl h hS
  have hx := hF.1
  have hb := hF.2.1
  have hml := hF.2.2.1
  have hown : s.vm.findClass RX2 = some m.cls := hF.2.2.2.1
  have htc := hF.2.2.2.2
  have hP : va_P D vwCl [] s.heap := hP
  have hD : va_D A [] := hD
  have hR0 : va_P D vwCl [(a_this, .inr (2, [.ref a_this_binomials, .ref a_this_partitionCounts, .ref a_this_treeCounts, .ref a_this_sizes, .ref a_this_starts, .ref a_this_ranks, .ref a_this_letters])), (a_this_binomials, .inl (cJ, 1891, .inr (.inl c_this_binomials)))] s.heap := hR0
  have hR := hR0
  have hl : lv_has ls 7 [(0, .ref a_this), (1, .int v_p1), (2, .int v_p2), (3, .int v_p3)] := hl
  unfold fX2_wordEnds at h
  refine lv_iload_n hx hb dX2_wordEnds_0 rfl (lv_at hl 2 rfl) ?_
  refine lv_if_lt (tgt := 9) hx hb dX2_wordEnds_1 (by decide) (fun hc1 => ?_) (fun hc1 => ?_)
  · have h := rk_if hc1 h
    refine lv_lconst (v := 0) hx hb dX2_wordEnds_9 (by decide) ?_
    exact hret (0 : Int64) _ _ _ _ h dX2_wordEnds_10 hP hD hS
  · have h := rk_nif hc1 h
    refine lv_iload_n hx hb dX2_wordEnds_4 rfl (lv_at hl 2 rfl) ?_
    refine lv_iload_n hx hb dX2_wordEnds_5 rfl (lv_at hl 1 rfl) ?_
    refine lv_icmp_le (tgt := 11) hx hb dX2_wordEnds_6 (by decide) (fun hc2 => ?_) (fun hc2 => ?_)
    · have h := rk_if hc2 h
      refine lv_iload_n hx hb dX2_wordEnds_11 rfl (lv_at hl 1 rfl) ?_
      refine lv_iload_n hx hb dX2_wordEnds_12 rfl (lv_at hl 2 rfl) ?_
      refine lv_isub hx hb dX2_wordEnds_13 ?_
      refine lv_iconst (v := 2) hx hb dX2_wordEnds_14 (by decide) ?_
      refine lv_idiv hx hb dX2_wordEnds_15 (by decide) ?_
      refine lv_istore (lv' := [(4, .int ((v_p1 - v_p2) / (2 : Int32))), (0, .ref a_this), (1, .int v_p1), (2, .int v_p2), (3, .int v_p3)]) hx hb dX2_wordEnds_16 hl (by decide) rfl (fun ls hl => ?_)
      refine lv_aload_n hx hb dX2_wordEnds_18 rfl (lv_at hl 1 rfl) ?_
      refine lv_iload_n hx hb dX2_wordEnds_19 rfl (lv_at hl 2 rfl) ?_
      refine lv_iload hx hb dX2_wordEnds_20 (lv_at hl 0 rfl) ?_
      obtain ⟨r_22, hc_22, h⟩ := rk_bd h
      refine rk_l (wr := []) (va_runV (C := RX2) (As := [.int v_p1, .int ((v_p1 - v_p2) / (2 : Int32))]) (rest := []) hF (mtX2_binomial l D cI cJ cO PL _ a_this a_this_binomials a_this_partitionCounts a_this_treeCounts a_this_sizes a_this_starts a_this_ranks a_this_letters c_this_binomials v_p1 ((v_p1 - v_p2) / (2 : Int32)) r_22 hc_22) (cwV 2 htc (rk_gV w_1_207 w_1_174 ws_0 w_1_2 w_1_175) rfl rfl rfl (by decide +kernel) ⟨(Nat.le_of_ble_eq_true rfl), (Nat.le_of_ble_eq_true rfl)⟩) (rk_preV (va_recv hV.1 hR (ci := 2) (q0 := 0) rfl rfl) (rk_preS hP hD hS hR hn hPL hnl hV [] [(false, 0), (false, 1)] rfl (by decide) rfl (by decide))) rfl rfl hl.1 rfl (lv_room (Nat.le_of_ble_eq_true rfl)) dX2_wordEnds_22 ⟨(Nat.le_of_ble_eq_true rfl), (Nat.le_of_ble_eq_true rfl)⟩) hP hD hS hA hR0 hn [] [] rfl rfl (by decide) (by decide) (fun H locs hP hD hS hR => ?_)
      have hP : va_P D vwCl [] H := hP
      have hD : va_D A [] := hD
      refine lv_aload_n hx hb dX2_wordEnds_25 rfl (lv_at hl 1 rfl) ?_
      refine lv_iload_n hx hb dX2_wordEnds_26 rfl (lv_at hl 2 rfl) ?_
      refine lv_iload hx hb dX2_wordEnds_27 (lv_at hl 0 rfl) ?_
      refine lv_iconst (v := 1) hx hb dX2_wordEnds_29 (by decide) ?_
      refine lv_isub hx hb dX2_wordEnds_30 ?_
      obtain ⟨r_31, hc_31, h⟩ := rk_bd h
      refine rk_l (wr := []) (va_runV (C := RX2) (As := [.int v_p1, .int (((v_p1 - v_p2) / (2 : Int32)) - (1 : Int32))]) (rest := [.long r_22]) hF (mtX2_binomial l D cI cJ cO PL _ a_this a_this_binomials a_this_partitionCounts a_this_treeCounts a_this_sizes a_this_starts a_this_ranks a_this_letters c_this_binomials v_p1 (((v_p1 - v_p2) / (2 : Int32)) - (1 : Int32)) r_31 hc_31) (cwV 2 htc (rk_gV w_1_207 w_1_174 ws_0 w_1_2 w_1_175) rfl rfl rfl (by decide +kernel) ⟨(Nat.le_of_ble_eq_true rfl), (Nat.le_of_ble_eq_true rfl)⟩) (rk_preV (va_recv hV.1 hR (ci := 2) (q0 := 0) rfl rfl) (rk_preS hP hD hS hR hn hPL hnl hV [] [(false, 0), (false, 1)] rfl (by decide) rfl (by decide))) rfl rfl hl.1 rfl (lv_room (Nat.le_of_ble_eq_true rfl)) dX2_wordEnds_31 ⟨(Nat.le_of_ble_eq_true rfl), (Nat.le_of_ble_eq_true rfl)⟩) hP hD hS hA hR0 hn [] [] rfl rfl (by decide) (by decide) (fun H locs hP hD hS hR => ?_)
      have hP : va_P D vwCl [] H := hP
      have hD : va_D A [] := hD
      refine lv_lsub hx hb dX2_wordEnds_34 ?_
      refine lv_lstore (lv' := [(5, .long (r_22 - r_31)), (4, .int ((v_p1 - v_p2) / (2 : Int32))), (0, .ref a_this), (1, .int v_p1), (2, .int v_p2), (3, .int v_p3)]) hx hb dX2_wordEnds_35 hl (by decide) rfl (fun ls hl => ?_)
      refine lv_iload_n hx hb dX2_wordEnds_37 rfl (lv_at hl 5 rfl) ?_
      refine lv_iconst (v := 2) hx hb dX2_wordEnds_38 (by decide) ?_
      refine lv_icmp_ne (tgt := 50) hx hb dX2_wordEnds_39 (by decide) (fun hc3 => ?_) (fun hc3 => ?_)
      · have h := rk_if hc3 h
        refine lv_lload hx hb dX2_wordEnds_50 (lv_at hl 0 rfl) ?_
        exact hret (r_22 - r_31) _ _ _ _ h dX2_wordEnds_52 hP hD hS
      · have h := rk_nnif hc3 h
        refine lv_lload hx hb dX2_wordEnds_42 (lv_at hl 0 rfl) ?_
        refine lv_iload hx hb dX2_wordEnds_44 (lv_at hl 1 rfl) ?_
        refine lv_lshl hx hb dX2_wordEnds_46 rfl ?_
        refine lv_goto (tgt := 52) hx hb dX2_wordEnds_47 (by decide) ?_
        exact hret ((r_22 - r_31) <<< (((v_p1 - v_p2) / (2 : Int32)).toInt64 &&& 63)) _ _ _ _ h dX2_wordEnds_52 hP hD hS
    · have h := rk_nif hc2 h
      refine lv_lconst (v := 0) hx hb dX2_wordEnds_9 (by decide) ?_
      exact hret (0 : Int64) _ _ _ _ h dX2_wordEnds_10 hP hD hS
set_option maxHeartbeats 4000000 in
set_option maxRecDepth 100000 in
theorem mtX2_trees (l : Launch) (D : va_G) (cI cJ cO : ClassId) (PL : va_W) (sz : Nat) (a_this : Nat) (a_this_binomials : Nat) (a_this_partitionCounts : Nat) (a_this_treeCounts : Nat) (a_this_sizes : Nat) (a_this_starts : Nat) (a_this_ranks : Nat) (a_this_letters : Nat) (c_this_treeCounts : Nat → Int64) (v_p1 : Int32) (r0 : Int64) (h : fX2_trees c_this_treeCounts v_p1 = some r0) : Met l yX2_trees (rk_w yX2_trees cX2_trees 2 (some .long)) rmX2_trees (va_Pc [.ref a_this, .int v_p1] (rk_B D (rk_TY cI cJ cO) [] [(a_this, .inr (2, [.ref a_this_binomials, .ref a_this_partitionCounts, .ref a_this_treeCounts, .ref a_this_sizes, .ref a_this_starts, .ref a_this_ranks, .ref a_this_letters])), (a_this_treeCounts, .inl (cJ, 31, .inr (.inl c_this_treeCounts)))] PL sz)) (rk_Ql r0 D [] [] sz) 0 0 (va_A [] sz) := by
  refine rk_metl h (fun x : Int64 => x) (fun x => []) (by decide) (Nat.le_of_ble_eq_true rfl) ?_
  intro p e s m args below meth c A ls Q hret hname hF hP hD hA hV hR0 hn hPL hnl hl h hS
  have hx := hF.1
  have hb := hF.2.1
  have hml := hF.2.2.1
  have hown : s.vm.findClass RX2 = some m.cls := hF.2.2.2.1
  have htc := hF.2.2.2.2
  have hP : va_P D vwCl [] s.heap := hP
  have hD : va_D A [] := hD
  have hR0 : va_P D vwCl [(a_this, .inr (2, [.ref a_this_binomials, .ref a_this_partitionCounts, .ref a_this_treeCounts, .ref a_this_sizes, .ref a_this_starts, .ref a_this_ranks, .ref a_this_letters])), (a_this_treeCounts, .inl (cJ, 31, .inr (.inl c_this_treeCounts)))] s.heap := hR0
  have hR := hR0
  have hl : lv_has ls 2 [(0, .ref a_this), (1, .int v_p1)] := hl
  unfold fX2_trees at h
  refine lv_aload_n hx hb dX2_trees_0 rfl (lv_at hl 0 rfl) ?_
  refine va_get (D := D) (ci := 2) (v := .ref a_this_treeCounts) (C := RX2) (T := TX2) (N := 7) hx hb htc inX2 hown hV.1 hR 0 rfl rfl 2 (by decide) (htc _ w_1_58) (fun _ h9 => h9) rfl dX2_trees_1 ?_
  refine lv_iload_n hx hb dX2_trees_4 rfl (lv_at hl 1 rfl) ?_
  obtain ⟨r_5, hc_5, h⟩ := rk_bd h
  refine rk_l (wr := []) (va_runSN (As := [.ref a_this_treeCounts, .int v_p1]) (rest := []) hF (mtX9_at_ l D cI cJ cO PL _ a_this_treeCounts 31 c_this_treeCounts v_p1 r_5 hc_5) ⟨va_cnB 2 htc (rk_gw w_1_40) rfl rfl rfl (hV.2.1 _ nw_1_38) (htc _ w_1_1) (by decide +kernel) ⟨(Nat.le_of_ble_eq_true rfl), (Nat.le_of_ble_eq_true rfl)⟩, htc _ w_1_39, trivial⟩ (rk_preS hP hD hS hR hn hPL hnl hV [] [(false, 1)] rfl (by decide) rfl (by decide)) rfl rfl hl.1 rfl (lv_room (Nat.le_of_ble_eq_true rfl)) dX2_trees_5 ⟨(Nat.le_of_ble_eq_true rfl), (Nat.le_of_ble_eq_true rfl)⟩) hP hD hS hA hR0 hn [] [] rfl rfl (by decide) (by decide) (fun H locs hP hD hS hR => ?_)
  have hP : va_P D vwCl [] H := hP
  have hD : va_D A [] := hD
  exact hret r_5 _ _ _ _ h dX2_trees_8 hP hD hS
set_option maxHeartbeats 4000000 in
set_option maxRecDepth 100000 in
theorem mtX3_init_X4 (l : Launch) (D : va_G) (cI cJ cO : ClassId) (PL : va_W) (sz : Nat) (a_this : Nat) (v_p1 : Int32) (v_p2 : Int32) (v_p3 : Int64) (r0 : Int32 × Int32 × Int64 × Int32) (h : fX3_init_X4 v_p1 v_p2 v_p3 = some r0) : Met l yX3_init (rk_w yX3_init cX3_init 5 none) rmX3_init_X4 (va_Pc [.ref a_this, .int v_p1, .int v_p2, .long v_p3] (rk_B D (rk_TY cI cJ cO) [(a_this, .inr (3, [.int 0, .int 0, .long 0, .int 0]))] [] PL sz)) (rk_Qv D [(a_this, .inr (3, [.int r0.1, .int r0.2.1, .long r0.2.2.1, .int r0.2.2.2]))] [(a_this, .inr (3, [.int 0, .int 0, .long 0, .int 0]))] sz) 0 0 (va_A [(a_this, .inr (3, [.int 0, .int 0, .long 0, .int 0]))] sz) := by
  refine rk_metv h (fun x => [(a_this, .inr (3, [.int x.1, .int x.2.1, .long x.2.2.1, .int x.2.2.2]))]) (by decide) (Nat.le_of_ble_eq_true rfl) ?_
  intro p e s m args below meth c A ls Q hret hname hF hP hD hA hV hR0 hn hPL hnl hl h hS
  have hx := hF.1
  have hb := hF.2.1
  have hml := hF.2.2.1
  have hown : s.vm.findClass RX3 = some m.cls := hF.2.2.2.1
  have htc := hF.2.2.2.2
  have hname : meth.name = "<init>" := hname
  have hP : va_P D vwCl [(a_this, .inr (3, [.int 0, .int 0, .long 0, .int 0]))] s.heap := hP
  have hD : va_D A [(a_this, .inr (3, [.int 0, .int 0, .long 0, .int 0]))] := hD
  have hR0 : va_P D vwCl [] s.heap := hR0
  have hR := hR0
  have hl : lv_has ls 5 [(0, .ref a_this), (1, .int v_p1), (2, .int v_p2), (3, .long v_p3)] := hl
  unfold fX3_init_X4 at h
  refine lv_aload_n hx hb dX3_init_0 rfl (lv_at hl 0 rfl) ?_
  refine W.objInit hx hb hown (htc _ w_1_116) (htc _ w_1_21) (htc _ w_1_22) rfl (by rw [hml]; exact hl.1) rfl dX3_init_1 (Nat.le_of_ble_eq_true rfl) (Nat.le_of_ble_eq_true rfl) ?_
  refine W.eq (g2 := F0 m 4 ls []) rfl ?_
  refine lv_aload_n hx hb dX3_init_4 rfl (lv_at hl 0 rfl) ?_
  refine lv_iload_n hx hb dX3_init_5 rfl (lv_at hl 1 rfl) ?_
  refine va_putF (D := D) (ci := 3) (v := .int v_p1) (ty := .int) (C := RX4) (T := TX4) (N := 4) hx hb htc inX4 tyX4 tyX4_ok nmX4 hown hV.1 hP hD hS 0 rfl rfl 0 (by decide) (htc _ w_1_119) (fun _ h9 => h9) rfl hname rfl (by decide +kernel) rfl rfl (Nat.le_of_ble_eq_true rfl) dX3_init_6 (fun H locs hP hD hS => ?_)
  have hP : va_P D vwCl [(a_this, .inr (3, [.int v_p1, .int 0, .long 0, .int 0]))] H := hP
  have hD : va_D A [(a_this, .inr (3, [.int v_p1, .int 0, .long 0, .int 0]))] := hD
  refine lv_aload_n hx hb dX3_init_9 rfl (lv_at hl 0 rfl) ?_
  refine lv_iload_n hx hb dX3_init_10 rfl (lv_at hl 2 rfl) ?_
  refine va_putF (D := D) (ci := 3) (v := .int v_p2) (ty := .int) (C := RX4) (T := TX4) (N := 4) hx hb htc inX4 tyX4 tyX4_ok nmX4 hown hV.1 hP hD hS 0 rfl rfl 1 (by decide) (htc _ w_1_122) (fun _ h9 => h9) rfl hname rfl (by decide +kernel) rfl rfl (Nat.le_of_ble_eq_true rfl) dX3_init_11 (fun H locs hP hD hS => ?_)
  have hP : va_P D vwCl [(a_this, .inr (3, [.int v_p1, .int v_p2, .long 0, .int 0]))] H := hP
  have hD : va_D A [(a_this, .inr (3, [.int v_p1, .int v_p2, .long 0, .int 0]))] := hD
  refine lv_aload_n hx hb dX3_init_14 rfl (lv_at hl 0 rfl) ?_
  refine lv_lload_n hx hb dX3_init_15 rfl (lv_at hl 3 rfl) ?_
  refine va_putF (D := D) (ci := 3) (v := .long v_p3) (ty := .long) (C := RX4) (T := TX4) (N := 4) hx hb htc inX4 tyX4 tyX4_ok nmX4 hown hV.1 hP hD hS 0 rfl rfl 2 (by decide) (htc _ w_1_136) (fun _ h9 => h9) rfl hname rfl (by decide +kernel) rfl rfl (Nat.le_of_ble_eq_true rfl) dX3_init_16 (fun H locs hP hD hS => ?_)
  have hP : va_P D vwCl [(a_this, .inr (3, [.int v_p1, .int v_p2, .long v_p3, .int 0]))] H := hP
  have hD : va_D A [(a_this, .inr (3, [.int v_p1, .int v_p2, .long v_p3, .int 0]))] := hD
  exact hret (v_p1, v_p2, v_p3, 0) _ _ _ _ h dX3_init_19 hP hD hS
set_option maxHeartbeats 4000000 in
set_option maxRecDepth 100000 in
theorem mtX4_init (l : Launch) (D : va_G) (cI cJ cO : ClassId) (PL : va_W) (sz : Nat) (a_this : Nat) (v_p1 : Int32) (v_p2 : Int32) (v_p3 : Int64) (r0 : Int32 × Int32 × Int64 × Int32) (h : fX4_init v_p1 v_p2 v_p3 = some r0) : Met l yX4_init (rk_w yX4_init cX4_init 5 none) rmX4_init (va_Pc [.ref a_this, .int v_p1, .int v_p2, .long v_p3] (rk_B D (rk_TY cI cJ cO) [(a_this, .inr (3, [.int 0, .int 0, .long 0, .int 0]))] [] PL sz)) (rk_Qv D [(a_this, .inr (3, [.int r0.1, .int r0.2.1, .long r0.2.2.1, .int r0.2.2.2]))] [(a_this, .inr (3, [.int 0, .int 0, .long 0, .int 0]))] sz) 0 0 (va_A [(a_this, .inr (3, [.int 0, .int 0, .long 0, .int 0]))] sz) := by
  refine rk_metv h (fun x => [(a_this, .inr (3, [.int x.1, .int x.2.1, .long x.2.2.1, .int x.2.2.2]))]) (by decide) (Nat.le_of_ble_eq_true rfl) ?_
  intro p e s m args below meth c A ls Q hret hname hF hP hD hA hV hR0 hn hPL hnl hl h hS
  have hx := hF.1
  have hb := hF.2.1
  have hml := hF.2.2.1
  have hown : s.vm.findClass RX4 = some m.cls := hF.2.2.2.1
  have htc := hF.2.2.2.2
  have hname : meth.name = "<init>" := hname
  have hP : va_P D vwCl [(a_this, .inr (3, [.int 0, .int 0, .long 0, .int 0]))] s.heap := hP
  have hD : va_D A [(a_this, .inr (3, [.int 0, .int 0, .long 0, .int 0]))] := hD
  have hR0 : va_P D vwCl [] s.heap := hR0
  have hR := hR0
  have hl : lv_has ls 5 [(0, .ref a_this), (1, .int v_p1), (2, .int v_p2), (3, .long v_p3)] := hl
  unfold fX4_init at h
  refine lv_aload_n hx hb dX4_init_0 rfl (lv_at hl 0 rfl) ?_
  refine lv_iconst (v := 4) hx hb dX4_init_1 (by decide) ?_
  refine lv_iload_n hx hb dX4_init_2 rfl (lv_at hl 1 rfl) ?_
  refine lv_lload_n hx hb dX4_init_3 rfl (lv_at hl 3 rfl) ?_
  obtain ⟨r_4, hc_4, h⟩ := rk_bd h
  refine rk_v (wr := []) (va_runI (As := [.int (4 : Int32), .int v_p1, .long v_p3]) (rest := []) hF (mtX3_init_X4 l D cI cJ cO PL _ a_this (4 : Int32) v_p1 v_p3 r_4 hc_4) (cwI 3 htc (rk_gw w_1_115) rfl rfl rfl (htc _ w_1_5) (htc _ w_2_135) (htc _ w_1_114) rfl (by decide +kernel) ⟨(Nat.le_of_ble_eq_true rfl), (Nat.le_of_ble_eq_true rfl)⟩) (rk_preS hP hD hS rk_nilP hn hPL hnl hV [0] [] rfl (by decide) rfl (by decide)) rfl rfl hl.1 rfl (lv_room (Nat.le_of_ble_eq_true rfl)) dX4_init_4 ⟨(Nat.le_of_ble_eq_true rfl), (Nat.le_of_ble_eq_true rfl)⟩) hP hD hS hA hR0 hn [0] [] rfl rfl (by decide) (by decide) (fun H locs hP hD hS hR => ?_)
  have hP : va_P D vwCl [(a_this, .inr (3, [.int r_4.1, .int r_4.2.1, .long r_4.2.2.1, .int r_4.2.2.2]))] H := hP
  have hD : va_D A [(a_this, .inr (3, [.int r_4.1, .int r_4.2.1, .long r_4.2.2.1, .int r_4.2.2.2]))] := hD
  refine lv_aload_n hx hb dX4_init_7 rfl (lv_at hl 0 rfl) ?_
  refine lv_iload_n hx hb dX4_init_8 rfl (lv_at hl 2 rfl) ?_
  refine va_putF (D := D) (ci := 3) (v := .int v_p2) (ty := .int) (C := RX4) (T := TX4) (N := 4) hx hb htc inX4 tyX4 tyX4_ok nmX4 hown hV.1 hP hD hS 0 rfl rfl 3 (by decide) (htc _ w_2_136) (fun _ h9 => h9) rfl hname rfl (by decide +kernel) rfl rfl (Nat.le_of_ble_eq_true rfl) dX4_init_9 (fun H locs hP hD hS => ?_)
  have hP : va_P D vwCl [(a_this, .inr (3, [.int r_4.1, .int r_4.2.1, .long r_4.2.2.1, .int v_p2]))] H := hP
  have hD : va_D A [(a_this, .inr (3, [.int r_4.1, .int r_4.2.1, .long r_4.2.2.1, .int v_p2]))] := hD
  exact hret (r_4.1, r_4.2.1, r_4.2.2.1, v_p2) _ _ _ _ h dX4_init_12 hP hD hS
set_option maxHeartbeats 4000000 in
set_option maxRecDepth 100000 in
theorem mtX4_accepts (l : Launch) (D : va_G) (cI cJ cO : ClassId) (PL : va_W) (sz : Nat) (a_this : Nat) (f_this_number : Int32) (f_this_width : Int32) (f_this_size : Int64) (f_this_greatest : Int32) (a_p1 : Nat) (c_p1 : Nat → Int32) (a_p2 : Nat) (a_p2_binomials : Nat) (a_p2_partitionCounts : Nat) (a_p2_treeCounts : Nat) (a_p2_sizes : Nat) (a_p2_starts : Nat) (a_p2_ranks : Nat) (a_p2_letters : Nat) (c_p2_letters : Nat → Int32) (c_p2_sizes : Nat → Int32) (r0 : Int32 × (Nat → Int32) × (Nat → Int32)) (h : fX4_accepts f_this_width f_this_greatest c_p1 c_p2_letters c_p2_sizes = some r0) : Met l yX4_accepts (rk_w yX4_accepts cX4_accepts 7 (some .boolean)) rmX4_accepts (va_Pc [.ref a_this, .ref a_p1, .ref a_p2] (rk_B D (rk_TY cI cJ cO) [(a_p2_letters, .inl (cI, 4, .inl c_p2_letters)), (a_p2_sizes, .inl (cI, 60, .inl c_p2_sizes))] [(a_this, .inr (3, [.int f_this_number, .int f_this_width, .long f_this_size, .int f_this_greatest])), (a_p1, .inl (cI, 60, .inl c_p1)), (a_p2, .inr (2, [.ref a_p2_binomials, .ref a_p2_partitionCounts, .ref a_p2_treeCounts, .ref a_p2_sizes, .ref a_p2_starts, .ref a_p2_ranks, .ref a_p2_letters]))] PL sz)) (rk_Qi r0.1 D [(a_p2_letters, .inl (cI, 4, .inl r0.2.1)), (a_p2_sizes, .inl (cI, 60, .inl r0.2.2))] [(a_p2_letters, .inl (cI, 4, .inl c_p2_letters)), (a_p2_sizes, .inl (cI, 60, .inl c_p2_sizes))] sz) 0 0 (va_A [(a_p2_letters, .inl (cI, 4, .inl c_p2_letters)), (a_p2_sizes, .inl (cI, 60, .inl c_p2_sizes))] sz) := by
  refine rk_metz h (fun x : Int32 × (Nat → Int32) × (Nat → Int32) => x.1) (fun x => [(a_p2_letters, .inl (cI, 4, .inl x.2.1)), (a_p2_sizes, .inl (cI, 60, .inl x.2.2))]) (by decide) (Nat.le_of_ble_eq_true rfl) ?_
  intro p e s m args below meth c A ls Q hret hname hF hP hD hA hV hR0 hn hPL hnl hl h hS
  have hx := hF.1
  have hb := hF.2.1
  have hml := hF.2.2.1
  have hown : s.vm.findClass RX4 = some m.cls := hF.2.2.2.1
  have htc := hF.2.2.2.2
  have hP : va_P D vwCl [(a_p2_letters, .inl (cI, 4, .inl c_p2_letters)), (a_p2_sizes, .inl (cI, 60, .inl c_p2_sizes))] s.heap := hP
  have hD : va_D A [(a_p2_letters, .inl (cI, 4, .inl c_p2_letters)), (a_p2_sizes, .inl (cI, 60, .inl c_p2_sizes))] := hD
  have hR0 : va_P D vwCl [(a_this, .inr (3, [.int f_this_number, .int f_this_width, .long f_this_size, .int f_this_greatest])), (a_p1, .inl (cI, 60, .inl c_p1)), (a_p2, .inr (2, [.ref a_p2_binomials, .ref a_p2_partitionCounts, .ref a_p2_treeCounts, .ref a_p2_sizes, .ref a_p2_starts, .ref a_p2_ranks, .ref a_p2_letters]))] s.heap := hR0
  have hR := hR0
  have hl : lv_has ls 7 [(0, .ref a_this), (1, .ref a_p1), (2, .ref a_p2)] := hl
  unfold fX4_accepts at h
  refine lv_iconst (v := 0) hx hb dX4_accepts_0 (by decide) ?_
  refine lv_istore_n (lv' := [(3, .int (0 : Int32)), (0, .ref a_this), (1, .ref a_p1), (2, .ref a_p2)]) hx hb dX4_accepts_1 rfl hl (by decide) rfl (fun ls hl => ?_)
  refine lv_aload_n hx hb dX4_accepts_2 rfl (lv_at hl 1 rfl) ?_
  refine va_get (D := D) (ci := 3) (v := .int f_this_greatest) (C := RX4) (T := TX4) (N := 4) hx hb htc inX4 hown hV.1 hR 0 rfl rfl 3 (by decide) (htc _ w_2_136) (fun _ h9 => h9) rfl dX4_accepts_3 ?_
  refine lv_istore (lv' := [(4, .int f_this_greatest), (3, .int (0 : Int32)), (0, .ref a_this), (1, .ref a_p1), (2, .ref a_p2)]) hx hb dX4_accepts_6 hl (by decide) rfl (fun ls hl => ?_)
  refine lv_iconst (v := 0) hx hb dX4_accepts_8 (by decide) ?_
  refine lv_istore (lv' := [(5, .int (0 : Int32)), (4, .int f_this_greatest), (3, .int (0 : Int32)), (0, .ref a_this), (1, .ref a_p1), (2, .ref a_p2)]) hx hb dX4_accepts_9 hl (by decide) rfl (fun ls hl => ?_)
  have L11 : ∀ (n11 : Nat) (b11_l3 : Int32) (b11_l4 : Int32) (b11_l5 : Int32), rk_it3 (fX4_accepts_L11 f_this_width c_p1 c_p2_letters c_p2_sizes) n11 b11_l3 b11_l4 b11_l5 = some r0 → ∀ (H : Heap) (locs : List Loc), va_P D vwCl [(a_p2_letters, .inl (cI, 4, .inl c_p2_letters)), (a_p2_sizes, .inl (cI, 60, .inl c_p2_sizes))] H → va_D A [(a_p2_letters, .inl (cI, 4, .inl c_p2_letters)), (a_p2_sizes, .inl (cI, 60, .inl c_p2_sizes))] → va_S A s.heap H locs → ∀ (ls : Array Slot), lv_has ls 7 [(0, .ref a_this), (1, .ref a_p1), (3, .int b11_l3), (4, .int b11_l4), (5, .int b11_l5)] → W p l e rmX4_accepts s m args below meth c H locs 0 0 Q (F0 m 11 ls []) := by
    intro n11
    induction n11 with
    | zero => intro b11_l3 b11_l4 b11_l5 h; exact rk_no h
    | succ n11 ih11 =>
      intro b11_l3 b11_l4 b11_l5 h H locs hP hD hS ls hl
      have h : fX4_accepts_L11 f_this_width c_p1 c_p2_letters c_p2_sizes (rk_it3 (fX4_accepts_L11 f_this_width c_p1 c_p2_letters c_p2_sizes) n11) b11_l3 b11_l4 b11_l5 = some r0 := h
      unfold fX4_accepts_L11 at h
      have hR := rk_keep hR0 hn hS
      refine lv_iload hx hb dX4_accepts_11 (lv_at hl 4 rfl) ?_
      refine lv_aload_n hx hb dX4_accepts_13 rfl (lv_at hl 0 rfl) ?_
      refine va_get (D := D) (ci := 3) (v := .int f_this_width) (C := RX4) (T := TX4) (N := 4) hx hb htc inX4 hown hV.1 hR 0 rfl rfl 1 (by decide) (htc _ w_1_125) (fun _ h9 => u_same (htc _ w_1_126) _ h9) rfl dX4_accepts_14 ?_
      refine lv_icmp_ge (tgt := 57) hx hb dX4_accepts_17 (by decide) (fun hc1 => ?_) (fun hc1 => ?_)
      · have h := rk_if hc1 h
        refine lv_iload_n hx hb dX4_accepts_57 rfl (lv_at hl 2 rfl) ?_
        refine lv_aload_n hx hb dX4_accepts_58 rfl (lv_at hl 0 rfl) ?_
        refine va_get (D := D) (ci := 3) (v := .int f_this_width) (C := RX4) (T := TX4) (N := 4) hx hb htc inX4 hown hV.1 hR 0 rfl rfl 1 (by decide) (htc _ w_1_125) (fun _ h9 => u_same (htc _ w_1_126) _ h9) rfl dX4_accepts_59 ?_
        refine lv_icmp_ne (tgt := 69) hx hb dX4_accepts_62 (by decide) (fun hc2 => ?_) (fun hc2 => ?_)
        · have h := rk_if hc2 h
          refine lv_iconst (v := 0) hx hb dX4_accepts_69 (by decide) ?_
          exact hret ((0 : Int32), c_p2_letters, c_p2_sizes) _ _ _ _ h rk_nb0 dX4_accepts_70 hP hD hS
        · have h := rk_nnif hc2 h
          refine lv_iconst (v := 1) hx hb dX4_accepts_65 (by decide) ?_
          refine lv_goto (tgt := 70) hx hb dX4_accepts_66 (by decide) ?_
          exact hret ((1 : Int32), c_p2_letters, c_p2_sizes) _ _ _ _ h rk_nb1 dX4_accepts_70 hP hD hS
      · have h := rk_nif hc1 h
        refine lv_aload_n hx hb dX4_accepts_20 rfl (lv_at hl 1 rfl) ?_
        refine lv_iload hx hb dX4_accepts_21 (lv_at hl 4 rfl) ?_
        obtain ⟨r_23, hc_23, h⟩ := rk_bd h
        refine rk_i (wr := [(a_p2_letters, .inl (cI, 4, .inl c_p2_letters)), (a_p2_sizes, .inl (cI, 60, .inl c_p2_sizes))]) (va_runSN (As := [.ref a_p1, .int b11_l5]) (rest := []) hF (mtX9_at l D cI cJ cO PL _ a_p1 60 c_p1 b11_l5 r_23 hc_23) ⟨va_cnB 2 htc (rk_gw w_1_52) rfl rfl rfl (hV.2.1 _ nw_2_232) (htc _ w_1_1) (by decide +kernel) ⟨(Nat.le_of_ble_eq_true rfl), (Nat.le_of_ble_eq_true rfl)⟩, htc _ w_1_51, trivial⟩ (rk_preS hP hD hS hR hn hPL hnl hV [] [(false, 1)] rfl (by decide) rfl (by decide)) rfl rfl hl.1 rfl (lv_room (Nat.le_of_ble_eq_true rfl)) dX4_accepts_23 ⟨(Nat.le_of_ble_eq_true rfl), (Nat.le_of_ble_eq_true rfl)⟩) hP hD hS hA hR0 hn [] [0, 1] rfl rfl (by decide) (by decide) (fun H locs hP hD hS hR => ?_)
        have hP : va_P D vwCl [(a_p2_letters, .inl (cI, 4, .inl c_p2_letters)), (a_p2_sizes, .inl (cI, 60, .inl c_p2_sizes))] H := hP
        have hD : va_D A [(a_p2_letters, .inl (cI, 4, .inl c_p2_letters)), (a_p2_sizes, .inl (cI, 60, .inl c_p2_sizes))] := hD
        refine lv_istore (lv' := [(6, .int r_23), (0, .ref a_this), (1, .ref a_p1), (3, .int b11_l3), (4, .int b11_l4), (5, .int b11_l5)]) hx hb dX4_accepts_26 hl (by decide) rfl (fun ls hl => ?_)
        refine lv_iload hx hb dX4_accepts_28 (lv_at hl 0 rfl) ?_
        refine lv_if_lt (tgt := 40) hx hb dX4_accepts_30 (by decide) (fun hc3 => ?_) (fun hc3 => ?_)
        · have h := rk_if hc3 h
          refine lv_iconst (v := 0) hx hb dX4_accepts_40 (by decide) ?_
          exact hret ((0 : Int32), c_p2_letters, c_p2_sizes) _ _ _ _ h rk_nb0 dX4_accepts_41 hP hD hS
        · have h := rk_nif hc3 h
          refine lv_iload hx hb dX4_accepts_33 (lv_at hl 0 rfl) ?_
          refine lv_iload hx hb dX4_accepts_35 (lv_at hl 4 rfl) ?_
          refine lv_icmp_le (tgt := 42) hx hb dX4_accepts_37 (by decide) (fun hc4 => ?_) (fun hc4 => ?_)
          · have h := rk_if hc4 h
            refine lv_iload_n hx hb dX4_accepts_42 rfl (lv_at hl 3 rfl) ?_
            refine lv_iload hx hb dX4_accepts_43 (lv_at hl 0 rfl) ?_
            refine lv_iadd hx hb dX4_accepts_45 ?_
            refine lv_istore_n (lv' := [(3, .int (b11_l3 + r_23)), (6, .int r_23), (0, .ref a_this), (1, .ref a_p1), (4, .int b11_l4), (5, .int b11_l5)]) hx hb dX4_accepts_46 rfl hl (by decide) rfl (fun ls hl => ?_)
            refine lv_iload hx hb dX4_accepts_47 (lv_at hl 1 rfl) ?_
            refine lv_istore (lv' := [(4, .int r_23), (3, .int (b11_l3 + r_23)), (6, .int r_23), (0, .ref a_this), (1, .ref a_p1), (5, .int b11_l5)]) hx hb dX4_accepts_49 hl (by decide) rfl (fun ls hl => ?_)
            refine lv_iinc (v := (b11_l5 + 1)) (lv' := [(5, .int (b11_l5 + 1)), (4, .int r_23), (3, .int (b11_l3 + r_23)), (6, .int r_23), (0, .ref a_this), (1, .ref a_p1)]) hx hb dX4_accepts_51 hl (k := 5) rfl rfl (by decide) rfl (fun ls hl => ?_)
            refine lv_goto (tgt := 11) hx hb dX4_accepts_54 (by decide) ?_
            exact ih11 (b11_l3 + r_23) r_23 (b11_l5 + 1) h _ _ hP hD hS _ (lv_sub hl [4, 5, 2, 1, 0] rfl)
          · have h := rk_nif hc4 h
            refine lv_iconst (v := 0) hx hb dX4_accepts_40 (by decide) ?_
            exact hret ((0 : Int32), c_p2_letters, c_p2_sizes) _ _ _ _ h rk_nb0 dX4_accepts_41 hP hD hS
  exact L11 FU (0 : Int32) f_this_greatest (0 : Int32) h _ _ hP hD hS _ (lv_sub hl [3, 4, 2, 1, 0] rfl)
set_option maxHeartbeats 4000000 in
set_option maxRecDepth 100000 in
theorem mtX4_placeOf (l : Launch) (D : va_G) (cI cJ cO : ClassId) (PL : va_W) (sz : Nat) (a_this : Nat) (f_this_number : Int32) (f_this_width : Int32) (f_this_size : Int64) (f_this_greatest : Int32) (a_p1 : Nat) (c_p1 : Nat → Int32) (a_p2 : Nat) (a_p2_binomials : Nat) (a_p2_partitionCounts : Nat) (a_p2_treeCounts : Nat) (a_p2_sizes : Nat) (a_p2_starts : Nat) (a_p2_ranks : Nat) (a_p2_letters : Nat) (c_p2_letters : Nat → Int32) (c_p2_ranks : Nat → Int64) (c_p2_sizes : Nat → Int32) (c_p2_binomials : Nat → Int64) (c_p2_partitionCounts : Nat → Int32) (c_p2_treeCounts : Nat → Int64) (r0 : Int64 × (Nat → Int32) × (Nat → Int64) × (Nat → Int32)) (h : fX4_placeOf f_this_width c_p1 c_p2_letters c_p2_ranks c_p2_sizes c_p2_partitionCounts = some r0) : Met l yX4_placeOf (rk_w yX4_placeOf cX4_placeOf 8 (some .long)) rmX4_placeOf (va_Pc [.ref a_this, .ref a_p1, .ref a_p2] (rk_B D (rk_TY cI cJ cO) [(a_p2_letters, .inl (cI, 4, .inl c_p2_letters)), (a_p2_ranks, .inl (cJ, 60, .inr (.inl c_p2_ranks))), (a_p2_sizes, .inl (cI, 60, .inl c_p2_sizes))] [(a_this, .inr (3, [.int f_this_number, .int f_this_width, .long f_this_size, .int f_this_greatest])), (a_p1, .inl (cI, 60, .inl c_p1)), (a_p2, .inr (2, [.ref a_p2_binomials, .ref a_p2_partitionCounts, .ref a_p2_treeCounts, .ref a_p2_sizes, .ref a_p2_starts, .ref a_p2_ranks, .ref a_p2_letters])), (a_p2_binomials, .inl (cJ, 1891, .inr (.inl c_p2_binomials))), (a_p2_partitionCounts, .inl (cI, 1891, .inl c_p2_partitionCounts)), (a_p2_treeCounts, .inl (cJ, 31, .inr (.inl c_p2_treeCounts)))] PL sz)) (rk_Ql r0.1 D [(a_p2_letters, .inl (cI, 4, .inl r0.2.1)), (a_p2_ranks, .inl (cJ, 60, .inr (.inl r0.2.2.1))), (a_p2_sizes, .inl (cI, 60, .inl r0.2.2.2))] [(a_p2_letters, .inl (cI, 4, .inl c_p2_letters)), (a_p2_ranks, .inl (cJ, 60, .inr (.inl c_p2_ranks))), (a_p2_sizes, .inl (cI, 60, .inl c_p2_sizes))] sz) 0 0 (va_A [(a_p2_letters, .inl (cI, 4, .inl c_p2_letters)), (a_p2_ranks, .inl (cJ, 60, .inr (.inl c_p2_ranks))), (a_p2_sizes, .inl (cI, 60, .inl c_p2_sizes))] sz) := by
  refine rk_metl h (fun x : Int64 × (Nat → Int32) × (Nat → Int64) × (Nat → Int32) => x.1) (fun x => [(a_p2_letters, .inl (cI, 4, .inl x.2.1)), (a_p2_ranks, .inl (cJ, 60, .inr (.inl x.2.2.1))), (a_p2_sizes, .inl (cI, 60, .inl x.2.2.2))]) (by decide) (Nat.le_of_ble_eq_true rfl) ?_
  intro p e s m args below meth c A ls Q hret hname hF hP hD hA hV hR0 hn hPL hnl hl h hS
  have hx := hF.1
  have hb := hF.2.1
  have hml := hF.2.2.1
  have hown : s.vm.findClass RX4 = some m.cls := hF.2.2.2.1
  have htc := hF.2.2.2.2
  have hP : va_P D vwCl [(a_p2_letters, .inl (cI, 4, .inl c_p2_letters)), (a_p2_ranks, .inl (cJ, 60, .inr (.inl c_p2_ranks))), (a_p2_sizes, .inl (cI, 60, .inl c_p2_sizes))] s.heap := hP
  have hD : va_D A [(a_p2_letters, .inl (cI, 4, .inl c_p2_letters)), (a_p2_ranks, .inl (cJ, 60, .inr (.inl c_p2_ranks))), (a_p2_sizes, .inl (cI, 60, .inl c_p2_sizes))] := hD
  have hR0 : va_P D vwCl [(a_this, .inr (3, [.int f_this_number, .int f_this_width, .long f_this_size, .int f_this_greatest])), (a_p1, .inl (cI, 60, .inl c_p1)), (a_p2, .inr (2, [.ref a_p2_binomials, .ref a_p2_partitionCounts, .ref a_p2_treeCounts, .ref a_p2_sizes, .ref a_p2_starts, .ref a_p2_ranks, .ref a_p2_letters])), (a_p2_binomials, .inl (cJ, 1891, .inr (.inl c_p2_binomials))), (a_p2_partitionCounts, .inl (cI, 1891, .inl c_p2_partitionCounts)), (a_p2_treeCounts, .inl (cJ, 31, .inr (.inl c_p2_treeCounts)))] s.heap := hR0
  have hR := hR0
  have hl : lv_has ls 8 [(0, .ref a_this), (1, .ref a_p1), (2, .ref a_p2)] := hl
  unfold fX4_placeOf at h
  refine lv_lconst (v := 0) hx hb dX4_placeOf_0 (by decide) ?_
  refine lv_lstore_n (lv' := [(3, .long (0 : Int64)), (0, .ref a_this), (1, .ref a_p1), (2, .ref a_p2)]) hx hb dX4_placeOf_1 rfl hl (by decide) rfl (fun ls hl => ?_)
  refine lv_aload_n hx hb dX4_placeOf_2 rfl (lv_at hl 1 rfl) ?_
  refine va_get (D := D) (ci := 3) (v := .int f_this_width) (C := RX4) (T := TX4) (N := 4) hx hb htc inX4 hown hV.1 hR 0 rfl rfl 1 (by decide) (htc _ w_1_125) (fun _ h9 => u_same (htc _ w_1_126) _ h9) rfl dX4_placeOf_3 ?_
  refine lv_istore (lv' := [(5, .int f_this_width), (3, .long (0 : Int64)), (0, .ref a_this), (1, .ref a_p1), (2, .ref a_p2)]) hx hb dX4_placeOf_6 hl (by decide) rfl (fun ls hl => ?_)
  refine lv_iconst (v := 0) hx hb dX4_placeOf_8 (by decide) ?_
  refine lv_istore (lv' := [(6, .int (0 : Int32)), (5, .int f_this_width), (3, .long (0 : Int64)), (0, .ref a_this), (1, .ref a_p1), (2, .ref a_p2)]) hx hb dX4_placeOf_9 hl (by decide) rfl (fun ls hl => ?_)
  have L11 : ∀ (n11 : Nat) (b11_l3 : Int64) (b11_l5 : Int32) (b11_l6 : Int32), rk_it3 (fX4_placeOf_L11 f_this_width c_p1 c_p2_letters c_p2_ranks c_p2_sizes c_p2_partitionCounts) n11 b11_l3 b11_l5 b11_l6 = some r0 → ∀ (H : Heap) (locs : List Loc), va_P D vwCl [(a_p2_letters, .inl (cI, 4, .inl c_p2_letters)), (a_p2_ranks, .inl (cJ, 60, .inr (.inl c_p2_ranks))), (a_p2_sizes, .inl (cI, 60, .inl c_p2_sizes))] H → va_D A [(a_p2_letters, .inl (cI, 4, .inl c_p2_letters)), (a_p2_ranks, .inl (cJ, 60, .inr (.inl c_p2_ranks))), (a_p2_sizes, .inl (cI, 60, .inl c_p2_sizes))] → va_S A s.heap H locs → ∀ (ls : Array Slot), lv_has ls 8 [(0, .ref a_this), (1, .ref a_p1), (2, .ref a_p2), (3, .long b11_l3), (5, .int b11_l5), (6, .int b11_l6)] → W p l e rmX4_placeOf s m args below meth c H locs 0 0 Q (F0 m 11 ls []) := by
    intro n11
    induction n11 with
    | zero => intro b11_l3 b11_l5 b11_l6 h; exact rk_no h
    | succ n11 ih11 =>
      intro b11_l3 b11_l5 b11_l6 h H locs hP hD hS ls hl
      have h : fX4_placeOf_L11 f_this_width c_p1 c_p2_letters c_p2_ranks c_p2_sizes c_p2_partitionCounts (rk_it3 (fX4_placeOf_L11 f_this_width c_p1 c_p2_letters c_p2_ranks c_p2_sizes c_p2_partitionCounts) n11) b11_l3 b11_l5 b11_l6 = some r0 := h
      unfold fX4_placeOf_L11 at h
      have hR := rk_keep hR0 hn hS
      refine lv_iload hx hb dX4_placeOf_11 (lv_at hl 5 rfl) ?_
      refine lv_aload_n hx hb dX4_placeOf_13 rfl (lv_at hl 0 rfl) ?_
      refine va_get (D := D) (ci := 3) (v := .int f_this_width) (C := RX4) (T := TX4) (N := 4) hx hb htc inX4 hown hV.1 hR 0 rfl rfl 1 (by decide) (htc _ w_1_125) (fun _ h9 => u_same (htc _ w_1_126) _ h9) rfl dX4_placeOf_14 ?_
      refine lv_icmp_ge (tgt := 60) hx hb dX4_placeOf_17 (by decide) (fun hc1 => ?_) (fun hc1 => ?_)
      · have h := rk_if hc1 h
        refine lv_lload_n hx hb dX4_placeOf_60 rfl (lv_at hl 3 rfl) ?_
        exact hret (b11_l3, c_p2_letters, c_p2_ranks, c_p2_sizes) _ _ _ _ h dX4_placeOf_61 hP hD hS
      · have h := rk_nif hc1 h
        refine lv_iload hx hb dX4_placeOf_20 (lv_at hl 4 rfl) ?_
        refine lv_if_le (tgt := 60) hx hb dX4_placeOf_22 (by decide) (fun hc2 => ?_) (fun hc2 => ?_)
        · have h := rk_if hc2 h
          refine lv_lload_n hx hb dX4_placeOf_60 rfl (lv_at hl 3 rfl) ?_
          exact hret (b11_l3, c_p2_letters, c_p2_ranks, c_p2_sizes) _ _ _ _ h dX4_placeOf_61 hP hD hS
        · have h := rk_nif hc2 h
          refine lv_aload_n hx hb dX4_placeOf_25 rfl (lv_at hl 1 rfl) ?_
          refine lv_iload hx hb dX4_placeOf_26 (lv_at hl 5 rfl) ?_
          obtain ⟨r_28, hc_28, h⟩ := rk_bd h
          refine rk_i (wr := [(a_p2_letters, .inl (cI, 4, .inl c_p2_letters)), (a_p2_ranks, .inl (cJ, 60, .inr (.inl c_p2_ranks))), (a_p2_sizes, .inl (cI, 60, .inl c_p2_sizes))]) (va_runSN (As := [.ref a_p1, .int b11_l6]) (rest := []) hF (mtX9_at l D cI cJ cO PL _ a_p1 60 c_p1 b11_l6 r_28 hc_28) ⟨va_cnB 2 htc (rk_gw w_1_52) rfl rfl rfl (hV.2.1 _ nw_2_232) (htc _ w_1_1) (by decide +kernel) ⟨(Nat.le_of_ble_eq_true rfl), (Nat.le_of_ble_eq_true rfl)⟩, htc _ w_1_51, trivial⟩ (rk_preS hP hD hS hR hn hPL hnl hV [] [(false, 1)] rfl (by decide) rfl (by decide)) rfl rfl hl.1 rfl (lv_room (Nat.le_of_ble_eq_true rfl)) dX4_placeOf_28 ⟨(Nat.le_of_ble_eq_true rfl), (Nat.le_of_ble_eq_true rfl)⟩) hP hD hS hA hR0 hn [] [0, 1, 2] rfl rfl (by decide) (by decide) (fun H locs hP hD hS hR => ?_)
          have hP : va_P D vwCl [(a_p2_letters, .inl (cI, 4, .inl c_p2_letters)), (a_p2_ranks, .inl (cJ, 60, .inr (.inl c_p2_ranks))), (a_p2_sizes, .inl (cI, 60, .inl c_p2_sizes))] H := hP
          have hD : va_D A [(a_p2_letters, .inl (cI, 4, .inl c_p2_letters)), (a_p2_ranks, .inl (cJ, 60, .inr (.inl c_p2_ranks))), (a_p2_sizes, .inl (cI, 60, .inl c_p2_sizes))] := hD
          refine lv_istore (lv' := [(7, .int r_28), (0, .ref a_this), (1, .ref a_p1), (2, .ref a_p2), (3, .long b11_l3), (5, .int b11_l5), (6, .int b11_l6)]) hx hb dX4_placeOf_31 hl (by decide) rfl (fun ls hl => ?_)
          refine lv_lload_n hx hb dX4_placeOf_33 rfl (lv_at hl 4 rfl) ?_
          refine lv_aload_n hx hb dX4_placeOf_34 rfl (lv_at hl 3 rfl) ?_
          refine lv_iload hx hb dX4_placeOf_35 (lv_at hl 5 rfl) ?_
          refine lv_iload hx hb dX4_placeOf_37 (lv_at hl 0 rfl) ?_
          refine lv_iconst (v := 1) hx hb dX4_placeOf_39 (by decide) ?_
          refine lv_isub hx hb dX4_placeOf_40 ?_
          obtain ⟨r_41, hc_41, h⟩ := rk_bd h
          refine rk_i (wr := [(a_p2_letters, .inl (cI, 4, .inl c_p2_letters)), (a_p2_ranks, .inl (cJ, 60, .inr (.inl c_p2_ranks))), (a_p2_sizes, .inl (cI, 60, .inl c_p2_sizes))]) (va_runVN (C := RX2) (As := [.int b11_l5, .int (r_28 - (1 : Int32))]) (rest := [.long b11_l3]) hF (mtX2_partitions l D cI cJ cO PL _ a_p2 a_p2_binomials a_p2_partitionCounts a_p2_treeCounts a_p2_sizes a_p2_starts a_p2_ranks a_p2_letters c_p2_partitionCounts b11_l5 (r_28 - (1 : Int32)) r_41 hc_41) ⟨va_cnB 2 htc (rk_gw w_1_215) rfl rfl rfl (hV.2.1 _ nw_1_212) (htc _ w_1_2) (by decide +kernel) ⟨(Nat.le_of_ble_eq_true rfl), (Nat.le_of_ble_eq_true rfl)⟩, htc _ w_1_214, htc _ ws_4⟩ (rk_preV (va_recv hV.1 hR (ci := 2) (q0 := 2) rfl rfl) (rk_preS hP hD hS hR hn hPL hnl hV [] [(false, 2), (false, 4)] rfl (by decide) rfl (by decide))) rfl rfl hl.1 rfl (lv_room (Nat.le_of_ble_eq_true rfl)) dX4_placeOf_41 ⟨(Nat.le_of_ble_eq_true rfl), (Nat.le_of_ble_eq_true rfl)⟩) hP hD hS hA hR0 hn [] [0, 1, 2] rfl rfl (by decide) (by decide) (fun H locs hP hD hS hR => ?_)
          have hP : va_P D vwCl [(a_p2_letters, .inl (cI, 4, .inl c_p2_letters)), (a_p2_ranks, .inl (cJ, 60, .inr (.inl c_p2_ranks))), (a_p2_sizes, .inl (cI, 60, .inl c_p2_sizes))] H := hP
          have hD : va_D A [(a_p2_letters, .inl (cI, 4, .inl c_p2_letters)), (a_p2_ranks, .inl (cJ, 60, .inr (.inl c_p2_ranks))), (a_p2_sizes, .inl (cI, 60, .inl c_p2_sizes))] := hD
          refine lv_i2l hx hb dX4_placeOf_44 rfl ?_
          refine lv_ladd hx hb dX4_placeOf_45 ?_
          refine lv_lstore_n (lv' := [(3, .long (b11_l3 + r_41.toInt64)), (7, .int r_28), (0, .ref a_this), (1, .ref a_p1), (2, .ref a_p2), (5, .int b11_l5), (6, .int b11_l6)]) hx hb dX4_placeOf_46 rfl hl (by decide) rfl (fun ls hl => ?_)
          refine lv_iload hx hb dX4_placeOf_47 (lv_at hl 5 rfl) ?_
          refine lv_iload hx hb dX4_placeOf_49 (lv_at hl 1 rfl) ?_
          refine lv_isub hx hb dX4_placeOf_51 ?_
          refine lv_istore (lv' := [(5, .int (b11_l5 - r_28)), (3, .long (b11_l3 + r_41.toInt64)), (7, .int r_28), (0, .ref a_this), (1, .ref a_p1), (2, .ref a_p2), (6, .int b11_l6)]) hx hb dX4_placeOf_52 hl (by decide) rfl (fun ls hl => ?_)
          refine lv_iinc (v := (b11_l6 + 1)) (lv' := [(6, .int (b11_l6 + 1)), (5, .int (b11_l5 - r_28)), (3, .long (b11_l3 + r_41.toInt64)), (7, .int r_28), (0, .ref a_this), (1, .ref a_p1), (2, .ref a_p2)]) hx hb dX4_placeOf_54 hl (k := 6) rfl rfl (by decide) rfl (fun ls hl => ?_)
          refine lv_goto (tgt := 11) hx hb dX4_placeOf_57 (by decide) ?_
          exact ih11 (b11_l3 + r_41.toInt64) (b11_l5 - r_28) (b11_l6 + 1) h _ _ hP hD hS _ (lv_sub hl [4, 5, 6, 2, 1, 0] rfl)
  exact L11 FU (0 : Int64) f_this_width (0 : Int32) h _ _ hP hD hS _ (lv_sub hl [3, 4, 5, 2, 1, 0] rfl)
set_option maxHeartbeats 4000000 in
set_option maxRecDepth 100000 in
theorem mtX4_lay (l : Launch) (D : va_G) (cI cJ cO : ClassId) (PL : va_W) (sz : Nat) (a_p3 : Nat) (c_p3 : Nat → Int32) (a_this : Nat) (f_this_number : Int32) (f_this_width : Int32) (f_this_size : Int64) (f_this_greatest : Int32) (a_p4 : Nat) (a_p4_binomials : Nat) (a_p4_partitionCounts : Nat) (a_p4_treeCounts : Nat) (a_p4_sizes : Nat) (a_p4_starts : Nat) (a_p4_ranks : Nat) (a_p4_letters : Nat) (c_p4_letters : Nat → Int32) (c_p4_ranks : Nat → Int64) (c_p4_sizes : Nat → Int32) (c_p4_binomials : Nat → Int64) (c_p4_partitionCounts : Nat → Int32) (c_p4_treeCounts : Nat → Int64) (v_p1 : Int64) (r0 : (Nat → Int32) × (Nat → Int32) × (Nat → Int64) × (Nat → Int32)) (h : fX4_lay c_p3 f_this_width f_this_greatest c_p4_letters c_p4_ranks c_p4_sizes c_p4_partitionCounts v_p1 = some r0) : Met l yX4_lay (rk_w yX4_lay cX4_lay 11 none) rmX4_lay (va_Pc [.ref a_this, .long v_p1, .ref a_p3, .ref a_p4] (rk_B D (rk_TY cI cJ cO) [(a_p3, .inl (cI, 60, .inl c_p3)), (a_p4_letters, .inl (cI, 4, .inl c_p4_letters)), (a_p4_ranks, .inl (cJ, 60, .inr (.inl c_p4_ranks))), (a_p4_sizes, .inl (cI, 60, .inl c_p4_sizes))] [(a_this, .inr (3, [.int f_this_number, .int f_this_width, .long f_this_size, .int f_this_greatest])), (a_p4, .inr (2, [.ref a_p4_binomials, .ref a_p4_partitionCounts, .ref a_p4_treeCounts, .ref a_p4_sizes, .ref a_p4_starts, .ref a_p4_ranks, .ref a_p4_letters])), (a_p4_binomials, .inl (cJ, 1891, .inr (.inl c_p4_binomials))), (a_p4_partitionCounts, .inl (cI, 1891, .inl c_p4_partitionCounts)), (a_p4_treeCounts, .inl (cJ, 31, .inr (.inl c_p4_treeCounts)))] PL sz)) (rk_Qv D [(a_p3, .inl (cI, 60, .inl r0.1)), (a_p4_letters, .inl (cI, 4, .inl r0.2.1)), (a_p4_ranks, .inl (cJ, 60, .inr (.inl r0.2.2.1))), (a_p4_sizes, .inl (cI, 60, .inl r0.2.2.2))] [(a_p3, .inl (cI, 60, .inl c_p3)), (a_p4_letters, .inl (cI, 4, .inl c_p4_letters)), (a_p4_ranks, .inl (cJ, 60, .inr (.inl c_p4_ranks))), (a_p4_sizes, .inl (cI, 60, .inl c_p4_sizes))] sz) 0 0 (va_A [(a_p3, .inl (cI, 60, .inl c_p3)), (a_p4_letters, .inl (cI, 4, .inl c_p4_letters)), (a_p4_ranks, .inl (cJ, 60, .inr (.inl c_p4_ranks))), (a_p4_sizes, .inl (cI, 60, .inl c_p4_sizes))] sz) := by
  refine rk_metv h (fun x => [(a_p3, .inl (cI, 60, .inl x.1)), (a_p4_letters, .inl (cI, 4, .inl x.2.1)), (a_p4_ranks, .inl (cJ, 60, .inr (.inl x.2.2.1))), (a_p4_sizes, .inl (cI, 60, .inl x.2.2.2))]) (by decide) (Nat.le_of_ble_eq_true rfl) ?_
  intro p e s m args below meth c A ls Q hret hname hF hP hD hA hV hR0 hn hPL hnl hl h hS
  have hx := hF.1
  have hb := hF.2.1
  have hml := hF.2.2.1
  have hown : s.vm.findClass RX4 = some m.cls := hF.2.2.2.1
  have htc := hF.2.2.2.2
  have hP : va_P D vwCl [(a_p3, .inl (cI, 60, .inl c_p3)), (a_p4_letters, .inl (cI, 4, .inl c_p4_letters)), (a_p4_ranks, .inl (cJ, 60, .inr (.inl c_p4_ranks))), (a_p4_sizes, .inl (cI, 60, .inl c_p4_sizes))] s.heap := hP
  have hD : va_D A [(a_p3, .inl (cI, 60, .inl c_p3)), (a_p4_letters, .inl (cI, 4, .inl c_p4_letters)), (a_p4_ranks, .inl (cJ, 60, .inr (.inl c_p4_ranks))), (a_p4_sizes, .inl (cI, 60, .inl c_p4_sizes))] := hD
  have hR0 : va_P D vwCl [(a_this, .inr (3, [.int f_this_number, .int f_this_width, .long f_this_size, .int f_this_greatest])), (a_p4, .inr (2, [.ref a_p4_binomials, .ref a_p4_partitionCounts, .ref a_p4_treeCounts, .ref a_p4_sizes, .ref a_p4_starts, .ref a_p4_ranks, .ref a_p4_letters])), (a_p4_binomials, .inl (cJ, 1891, .inr (.inl c_p4_binomials))), (a_p4_partitionCounts, .inl (cI, 1891, .inl c_p4_partitionCounts)), (a_p4_treeCounts, .inl (cJ, 31, .inr (.inl c_p4_treeCounts)))] s.heap := hR0
  have hR := hR0
  have hl : lv_has ls 11 [(0, .ref a_this), (1, .long v_p1), (3, .ref a_p3), (4, .ref a_p4)] := hl
  unfold fX4_lay at h
  refine lv_lload_n hx hb dX4_lay_0 rfl (lv_at hl 1 rfl) ?_
  refine lv_lstore (lv' := [(5, .long v_p1), (0, .ref a_this), (1, .long v_p1), (3, .ref a_p3), (4, .ref a_p4)]) hx hb dX4_lay_1 hl (by decide) rfl (fun ls hl => ?_)
  refine lv_aload_n hx hb dX4_lay_3 rfl (lv_at hl 1 rfl) ?_
  refine va_get (D := D) (ci := 3) (v := .int f_this_width) (C := RX4) (T := TX4) (N := 4) hx hb htc inX4 hown hV.1 hR 0 rfl rfl 1 (by decide) (htc _ w_1_125) (fun _ h9 => u_same (htc _ w_1_126) _ h9) rfl dX4_lay_4 ?_
  refine lv_istore (lv' := [(7, .int f_this_width), (5, .long v_p1), (0, .ref a_this), (1, .long v_p1), (3, .ref a_p3), (4, .ref a_p4)]) hx hb dX4_lay_7 hl (by decide) rfl (fun ls hl => ?_)
  refine lv_aload_n hx hb dX4_lay_9 rfl (lv_at hl 2 rfl) ?_
  refine va_get (D := D) (ci := 3) (v := .int f_this_greatest) (C := RX4) (T := TX4) (N := 4) hx hb htc inX4 hown hV.1 hR 0 rfl rfl 3 (by decide) (htc _ w_2_136) (fun _ h9 => h9) rfl dX4_lay_10 ?_
  refine lv_istore (lv' := [(8, .int f_this_greatest), (7, .int f_this_width), (5, .long v_p1), (0, .ref a_this), (1, .long v_p1), (3, .ref a_p3), (4, .ref a_p4)]) hx hb dX4_lay_13 hl (by decide) rfl (fun ls hl => ?_)
  refine lv_iconst (v := 0) hx hb dX4_lay_15 (by decide) ?_
  refine lv_istore (lv' := [(9, .int (0 : Int32)), (8, .int f_this_greatest), (7, .int f_this_width), (5, .long v_p1), (0, .ref a_this), (1, .long v_p1), (3, .ref a_p3), (4, .ref a_p4)]) hx hb dX4_lay_16 hl (by decide) rfl (fun ls hl => ?_)
  have L18 : ∀ (n18 : Nat) (b18_l5 : Int64) (b18_l7 : Int32) (b18_l8 : Int32) (b18_l9 : Int32) (b18_c_p3 : Nat → Int32), rk_it5 (fX4_lay_L18 f_this_width c_p4_letters c_p4_ranks c_p4_sizes c_p4_partitionCounts) n18 b18_l5 b18_l7 b18_l8 b18_l9 b18_c_p3 = some r0 → ∀ (H : Heap) (locs : List Loc), va_P D vwCl [(a_p3, .inl (cI, 60, .inl b18_c_p3)), (a_p4_letters, .inl (cI, 4, .inl c_p4_letters)), (a_p4_ranks, .inl (cJ, 60, .inr (.inl c_p4_ranks))), (a_p4_sizes, .inl (cI, 60, .inl c_p4_sizes))] H → va_D A [(a_p3, .inl (cI, 60, .inl b18_c_p3)), (a_p4_letters, .inl (cI, 4, .inl c_p4_letters)), (a_p4_ranks, .inl (cJ, 60, .inr (.inl c_p4_ranks))), (a_p4_sizes, .inl (cI, 60, .inl c_p4_sizes))] → va_S A s.heap H locs → ∀ (ls : Array Slot), lv_has ls 11 [(0, .ref a_this), (3, .ref a_p3), (4, .ref a_p4), (5, .long b18_l5), (7, .int b18_l7), (8, .int b18_l8), (9, .int b18_l9)] → W p l e rmX4_lay s m args below meth c H locs 0 0 Q (F0 m 18 ls []) := by
    intro n18
    induction n18 with
    | zero => intro b18_l5 b18_l7 b18_l8 b18_l9 b18_c_p3 h; exact rk_no h
    | succ n18 ih18 =>
      intro b18_l5 b18_l7 b18_l8 b18_l9 b18_c_p3 h H locs hP hD hS ls hl
      have h : fX4_lay_L18 f_this_width c_p4_letters c_p4_ranks c_p4_sizes c_p4_partitionCounts (rk_it5 (fX4_lay_L18 f_this_width c_p4_letters c_p4_ranks c_p4_sizes c_p4_partitionCounts) n18) b18_l5 b18_l7 b18_l8 b18_l9 b18_c_p3 = some r0 := h
      unfold fX4_lay_L18 at h
      have hR := rk_keep hR0 hn hS
      refine lv_iload hx hb dX4_lay_18 (lv_at hl 6 rfl) ?_
      refine lv_aload_n hx hb dX4_lay_20 rfl (lv_at hl 0 rfl) ?_
      refine va_get (D := D) (ci := 3) (v := .int f_this_width) (C := RX4) (T := TX4) (N := 4) hx hb htc inX4 hown hV.1 hR 0 rfl rfl 1 (by decide) (htc _ w_1_125) (fun _ h9 => u_same (htc _ w_1_126) _ h9) rfl dX4_lay_21 ?_
      refine lv_icmp_ge (tgt := 122) hx hb dX4_lay_24 (by decide) (fun hc1 => ?_) (fun hc1 => ?_)
      · have h := rk_if hc1 h
        exact hret (b18_c_p3, c_p4_letters, c_p4_ranks, c_p4_sizes) _ _ _ _ h dX4_lay_122 hP hD hS
      · have h := rk_nif hc1 h
        refine lv_iload hx hb dX4_lay_27 (lv_at hl 4 rfl) ?_
        refine lv_iconst (v := 1) hx hb dX4_lay_29 (by decide) ?_
        refine va_mmin hx hb (hml.trans hl.1.symm) hown (htc _ w_1_211) (htc _ w_1_48) (htc _ w_1_3) (htc _ w_1_49) (Nat.le_of_ble_eq_true rfl) (Nat.le_of_ble_eq_true rfl) (Nat.le_of_ble_eq_true rfl) (Nat.le_of_ble_eq_true rfl) dX4_lay_30 ?_
        refine lv_istore (lv' := [(10, .int (if (1 : Int32) < b18_l7 then (1 : Int32) else b18_l7)), (0, .ref a_this), (3, .ref a_p3), (4, .ref a_p4), (5, .long b18_l5), (7, .int b18_l7), (8, .int b18_l8), (9, .int b18_l9)]) hx hb dX4_lay_33 hl (by decide) rfl (fun ls hl => ?_)
        have L35 : ∀ (n35 : Nat) (b35_l10 : Int32), rk_it1 (fX4_lay_L35 c_p4_partitionCounts b18_l5 b18_l7 b18_l8 b18_l9 b18_c_p3 (rk_it5 (fX4_lay_L18 f_this_width c_p4_letters c_p4_ranks c_p4_sizes c_p4_partitionCounts) n18)) n35 b35_l10 = some r0 → ∀ (H : Heap) (locs : List Loc), va_P D vwCl [(a_p3, .inl (cI, 60, .inl b18_c_p3)), (a_p4_letters, .inl (cI, 4, .inl c_p4_letters)), (a_p4_ranks, .inl (cJ, 60, .inr (.inl c_p4_ranks))), (a_p4_sizes, .inl (cI, 60, .inl c_p4_sizes))] H → va_D A [(a_p3, .inl (cI, 60, .inl b18_c_p3)), (a_p4_letters, .inl (cI, 4, .inl c_p4_letters)), (a_p4_ranks, .inl (cJ, 60, .inr (.inl c_p4_ranks))), (a_p4_sizes, .inl (cI, 60, .inl c_p4_sizes))] → va_S A s.heap H locs → ∀ (ls : Array Slot), lv_has ls 11 [(0, .ref a_this), (3, .ref a_p3), (4, .ref a_p4), (5, .long b18_l5), (7, .int b18_l7), (8, .int b18_l8), (9, .int b18_l9), (10, .int b35_l10)] → W p l e rmX4_lay s m args below meth c H locs 0 0 Q (F0 m 35 ls []) := by
          intro n35
          induction n35 with
          | zero => intro b35_l10 h; exact rk_no h
          | succ n35 ih35 =>
            intro b35_l10 h H locs hP hD hS ls hl
            have h : fX4_lay_L35 c_p4_partitionCounts b18_l5 b18_l7 b18_l8 b18_l9 b18_c_p3 (rk_it5 (fX4_lay_L18 f_this_width c_p4_letters c_p4_ranks c_p4_sizes c_p4_partitionCounts) n18) (rk_it1 (fX4_lay_L35 c_p4_partitionCounts b18_l5 b18_l7 b18_l8 b18_l9 b18_c_p3 (rk_it5 (fX4_lay_L18 f_this_width c_p4_letters c_p4_ranks c_p4_sizes c_p4_partitionCounts) n18)) n35) b35_l10 = some r0 := h
            unfold fX4_lay_L35 at h
            have hR := rk_keep hR0 hn hS
            refine lv_iload hx hb dX4_lay_35 (lv_at hl 7 rfl) ?_
            refine lv_iload hx hb dX4_lay_37 (lv_at hl 5 rfl) ?_
            have B71 : fX4_lay_B71 c_p4_partitionCounts b18_l5 b18_l7 b18_l9 b18_c_p3 (rk_it5 (fX4_lay_L18 f_this_width c_p4_letters c_p4_ranks c_p4_sizes c_p4_partitionCounts) n18) b35_l10 = some r0 → ∀ (H : Heap) (locs : List Loc), va_P D vwCl [(a_p3, .inl (cI, 60, .inl b18_c_p3)), (a_p4_letters, .inl (cI, 4, .inl c_p4_letters)), (a_p4_ranks, .inl (cJ, 60, .inr (.inl c_p4_ranks))), (a_p4_sizes, .inl (cI, 60, .inl c_p4_sizes))] H → va_D A [(a_p3, .inl (cI, 60, .inl b18_c_p3)), (a_p4_letters, .inl (cI, 4, .inl c_p4_letters)), (a_p4_ranks, .inl (cJ, 60, .inr (.inl c_p4_ranks))), (a_p4_sizes, .inl (cI, 60, .inl c_p4_sizes))] → va_S A s.heap H locs → ∀ (ls : Array Slot), lv_has ls 11 [(0, .ref a_this), (3, .ref a_p3), (4, .ref a_p4), (5, .long b18_l5), (7, .int b18_l7), (9, .int b18_l9), (10, .int b35_l10)] → W p l e rmX4_lay s m args below meth c H locs 0 0 Q (F0 m 71 ls []) := by
              intro  h H locs hP hD hS ls hl
              unfold fX4_lay_B71 at h
              have hR := rk_keep hR0 hn hS
              refine lv_lload hx hb dX4_lay_71 (lv_at hl 3 rfl) ?_
              refine lv_iload hx hb dX4_lay_73 (lv_at hl 4 rfl) ?_
              have B94 : ∀ (b94_t1 : Int64), fX4_lay_B94 b18_l5 b18_l7 b18_l9 b18_c_p3 (rk_it5 (fX4_lay_L18 f_this_width c_p4_letters c_p4_ranks c_p4_sizes c_p4_partitionCounts) n18) b35_l10 b94_t1 = some r0 → ∀ (H : Heap) (locs : List Loc), va_P D vwCl [(a_p3, .inl (cI, 60, .inl b18_c_p3)), (a_p4_letters, .inl (cI, 4, .inl c_p4_letters)), (a_p4_ranks, .inl (cJ, 60, .inr (.inl c_p4_ranks))), (a_p4_sizes, .inl (cI, 60, .inl c_p4_sizes))] H → va_D A [(a_p3, .inl (cI, 60, .inl b18_c_p3)), (a_p4_letters, .inl (cI, 4, .inl c_p4_letters)), (a_p4_ranks, .inl (cJ, 60, .inr (.inl c_p4_ranks))), (a_p4_sizes, .inl (cI, 60, .inl c_p4_sizes))] → va_S A s.heap H locs → ∀ (ls : Array Slot), lv_has ls 11 [(0, .ref a_this), (3, .ref a_p3), (4, .ref a_p4), (7, .int b18_l7), (9, .int b18_l9), (10, .int b35_l10)] → W p l e rmX4_lay s m args below meth c H locs 0 0 Q (F0 m 94 ls [.long b94_t1, .long b18_l5]) := by
                intro b94_t1 h H locs hP hD hS ls hl
                unfold fX4_lay_B94 at h
                have hR := rk_keep hR0 hn hS
                refine lv_lsub hx hb dX4_lay_94 ?_
                refine lv_lstore (lv' := [(5, .long (b18_l5 - b94_t1)), (0, .ref a_this), (3, .ref a_p3), (4, .ref a_p4), (7, .int b18_l7), (9, .int b18_l9), (10, .int b35_l10)]) hx hb dX4_lay_95 hl (by decide) rfl (fun ls hl => ?_)
                refine lv_aload_n hx hb dX4_lay_97 rfl (lv_at hl 2 rfl) ?_
                refine lv_iload hx hb dX4_lay_98 (lv_at hl 5 rfl) ?_
                refine lv_iload hx hb dX4_lay_100 (lv_at hl 6 rfl) ?_
                obtain ⟨r_102, hc_102, h⟩ := rk_bd h
                refine rk_v (wr := [(a_p4_letters, .inl (cI, 4, .inl c_p4_letters)), (a_p4_ranks, .inl (cJ, 60, .inr (.inl c_p4_ranks))), (a_p4_sizes, .inl (cI, 60, .inl c_p4_sizes))]) (va_runSN (As := [.ref a_p3, .int b18_l9, .int b35_l10]) (rest := []) hF (mtX9_set l D cI cJ cO PL _ a_p3 60 b18_c_p3 b18_l9 b35_l10 r_102 hc_102) ⟨va_cnB 3 htc (rk_gw w_1_46) rfl rfl rfl (hV.2.1 _ nw_1_216) (htc _ w_1_1) (by decide +kernel) ⟨(Nat.le_of_ble_eq_true rfl), (Nat.le_of_ble_eq_true rfl)⟩, htc _ w_1_45, trivial⟩ (rk_preS hP hD hS hR hn hPL hnl hV [0] [] rfl (by decide) rfl (by decide)) rfl rfl hl.1 rfl (lv_room (Nat.le_of_ble_eq_true rfl)) dX4_lay_102 ⟨(Nat.le_of_ble_eq_true rfl), (Nat.le_of_ble_eq_true rfl)⟩) hP hD hS hA hR0 hn [0] [1, 2, 3] rfl rfl (by decide) (by decide) (fun H locs hP hD hS hR => ?_)
                have hP : va_P D vwCl [(a_p4_letters, .inl (cI, 4, .inl c_p4_letters)), (a_p4_ranks, .inl (cJ, 60, .inr (.inl c_p4_ranks))), (a_p4_sizes, .inl (cI, 60, .inl c_p4_sizes)), (a_p3, .inl (cI, 60, .inl r_102))] H := hP
                have hD : va_D A [(a_p4_letters, .inl (cI, 4, .inl c_p4_letters)), (a_p4_ranks, .inl (cJ, 60, .inr (.inl c_p4_ranks))), (a_p4_sizes, .inl (cI, 60, .inl c_p4_sizes)), (a_p3, .inl (cI, 60, .inl r_102))] := hD
                refine lv_iload hx hb dX4_lay_105 (lv_at hl 4 rfl) ?_
                refine lv_iload hx hb dX4_lay_107 (lv_at hl 6 rfl) ?_
                refine lv_isub hx hb dX4_lay_109 ?_
                refine lv_istore (lv' := [(7, .int (b18_l7 - b35_l10)), (5, .long (b18_l5 - b94_t1)), (0, .ref a_this), (3, .ref a_p3), (4, .ref a_p4), (9, .int b18_l9), (10, .int b35_l10)]) hx hb dX4_lay_110 hl (by decide) rfl (fun ls hl => ?_)
                refine lv_iload hx hb dX4_lay_112 (lv_at hl 6 rfl) ?_
                refine lv_istore (lv' := [(8, .int b35_l10), (7, .int (b18_l7 - b35_l10)), (5, .long (b18_l5 - b94_t1)), (0, .ref a_this), (3, .ref a_p3), (4, .ref a_p4), (9, .int b18_l9), (10, .int b35_l10)]) hx hb dX4_lay_114 hl (by decide) rfl (fun ls hl => ?_)
                refine lv_iinc (v := (b18_l9 + 1)) (lv' := [(9, .int (b18_l9 + 1)), (8, .int b35_l10), (7, .int (b18_l7 - b35_l10)), (5, .long (b18_l5 - b94_t1)), (0, .ref a_this), (3, .ref a_p3), (4, .ref a_p4), (10, .int b35_l10)]) hx hb dX4_lay_116 hl (k := 6) rfl rfl (by decide) rfl (fun ls hl => ?_)
                refine lv_goto (tgt := 18) hx hb dX4_lay_119 (by decide) ?_
                exact ih18 (b18_l5 - b94_t1) (b18_l7 - b35_l10) b35_l10 (b18_l9 + 1) r_102 h _ _ (hP.sub [3, 0, 1, 2] rfl) (hD.sub [3, 0, 1, 2] (by decide) rfl) hS _ (lv_sub hl [4, 5, 6, 3, 2, 1, 0] rfl)
              refine lv_if_le (tgt := 93) hx hb dX4_lay_75 (by decide) (fun hc2 => ?_) (fun hc2 => ?_)
              · have h := rk_if hc2 h
                refine lv_lconst (v := 0) hx hb dX4_lay_93 (by decide) ?_
                exact B94 (0 : Int64) h _ _ hP hD hS _ (lv_sub hl [0, 1, 2, 4, 5, 6] rfl)
              · have h := rk_nif hc2 h
                refine lv_aload hx hb dX4_lay_78 (lv_at hl 2 rfl) ?_
                refine lv_iload hx hb dX4_lay_80 (lv_at hl 4 rfl) ?_
                refine lv_iload hx hb dX4_lay_82 (lv_at hl 6 rfl) ?_
                refine lv_iconst (v := 1) hx hb dX4_lay_84 (by decide) ?_
                refine lv_isub hx hb dX4_lay_85 ?_
                obtain ⟨r_86, hc_86, h⟩ := rk_bd h
                refine rk_i (wr := [(a_p3, .inl (cI, 60, .inl b18_c_p3)), (a_p4_letters, .inl (cI, 4, .inl c_p4_letters)), (a_p4_ranks, .inl (cJ, 60, .inr (.inl c_p4_ranks))), (a_p4_sizes, .inl (cI, 60, .inl c_p4_sizes))]) (va_runVN (C := RX2) (As := [.int b18_l7, .int (b35_l10 - (1 : Int32))]) (rest := [.long b18_l5]) hF (mtX2_partitions l D cI cJ cO PL _ a_p4 a_p4_binomials a_p4_partitionCounts a_p4_treeCounts a_p4_sizes a_p4_starts a_p4_ranks a_p4_letters c_p4_partitionCounts b18_l7 (b35_l10 - (1 : Int32)) r_86 hc_86) ⟨va_cnB 2 htc (rk_gw w_1_215) rfl rfl rfl (hV.2.1 _ nw_1_212) (htc _ w_1_2) (by decide +kernel) ⟨(Nat.le_of_ble_eq_true rfl), (Nat.le_of_ble_eq_true rfl)⟩, htc _ w_1_214, htc _ ws_4⟩ (rk_preV (va_recv hV.1 hR (ci := 2) (q0 := 1) rfl rfl) (rk_preS hP hD hS hR hn hPL hnl hV [] [(false, 1), (false, 3)] rfl (by decide) rfl (by decide))) rfl rfl hl.1 rfl (lv_room (Nat.le_of_ble_eq_true rfl)) dX4_lay_86 ⟨(Nat.le_of_ble_eq_true rfl), (Nat.le_of_ble_eq_true rfl)⟩) hP hD hS hA hR0 hn [] [0, 1, 2, 3] rfl rfl (by decide) (by decide) (fun H locs hP hD hS hR => ?_)
                have hP : va_P D vwCl [(a_p3, .inl (cI, 60, .inl b18_c_p3)), (a_p4_letters, .inl (cI, 4, .inl c_p4_letters)), (a_p4_ranks, .inl (cJ, 60, .inr (.inl c_p4_ranks))), (a_p4_sizes, .inl (cI, 60, .inl c_p4_sizes))] H := hP
                have hD : va_D A [(a_p3, .inl (cI, 60, .inl b18_c_p3)), (a_p4_letters, .inl (cI, 4, .inl c_p4_letters)), (a_p4_ranks, .inl (cJ, 60, .inr (.inl c_p4_ranks))), (a_p4_sizes, .inl (cI, 60, .inl c_p4_sizes))] := hD
                refine lv_i2l hx hb dX4_lay_89 rfl ?_
                refine lv_goto (tgt := 94) hx hb dX4_lay_90 (by decide) ?_
                exact B94 r_86.toInt64 h _ _ hP hD hS _ (lv_sub hl [0, 1, 2, 4, 5, 6] rfl)
            refine lv_icmp_ge (tgt := 71) hx hb dX4_lay_39 (by decide) (fun hc3 => ?_) (fun hc3 => ?_)
            · have h := rk_if hc3 h
              exact B71  h _ _ hP hD hS _ (lv_sub hl [0, 1, 2, 3, 4, 6, 7] rfl)
            · have h := rk_nif hc3 h
              refine lv_iload hx hb dX4_lay_42 (lv_at hl 7 rfl) ?_
              refine lv_iload hx hb dX4_lay_44 (lv_at hl 4 rfl) ?_
              refine lv_icmp_ge (tgt := 71) hx hb dX4_lay_46 (by decide) (fun hc4 => ?_) (fun hc4 => ?_)
              · have h := rk_if hc4 h
                exact B71  h _ _ hP hD hS _ (lv_sub hl [0, 1, 2, 3, 4, 6, 7] rfl)
              · have h := rk_nif hc4 h
                refine lv_aload hx hb dX4_lay_49 (lv_at hl 2 rfl) ?_
                refine lv_iload hx hb dX4_lay_51 (lv_at hl 4 rfl) ?_
                refine lv_iload hx hb dX4_lay_53 (lv_at hl 7 rfl) ?_
                obtain ⟨r_55, hc_55, h⟩ := rk_bd h
                refine rk_i (wr := [(a_p3, .inl (cI, 60, .inl b18_c_p3)), (a_p4_letters, .inl (cI, 4, .inl c_p4_letters)), (a_p4_ranks, .inl (cJ, 60, .inr (.inl c_p4_ranks))), (a_p4_sizes, .inl (cI, 60, .inl c_p4_sizes))]) (va_runVN (C := RX2) (As := [.int b18_l7, .int b35_l10]) (rest := []) hF (mtX2_partitions l D cI cJ cO PL _ a_p4 a_p4_binomials a_p4_partitionCounts a_p4_treeCounts a_p4_sizes a_p4_starts a_p4_ranks a_p4_letters c_p4_partitionCounts b18_l7 b35_l10 r_55 hc_55) ⟨va_cnB 2 htc (rk_gw w_1_215) rfl rfl rfl (hV.2.1 _ nw_1_212) (htc _ w_1_2) (by decide +kernel) ⟨(Nat.le_of_ble_eq_true rfl), (Nat.le_of_ble_eq_true rfl)⟩, htc _ w_1_214, htc _ ws_4⟩ (rk_preV (va_recv hV.1 hR (ci := 2) (q0 := 1) rfl rfl) (rk_preS hP hD hS hR hn hPL hnl hV [] [(false, 1), (false, 3)] rfl (by decide) rfl (by decide))) rfl rfl hl.1 rfl (lv_room (Nat.le_of_ble_eq_true rfl)) dX4_lay_55 ⟨(Nat.le_of_ble_eq_true rfl), (Nat.le_of_ble_eq_true rfl)⟩) hP hD hS hA hR0 hn [] [0, 1, 2, 3] rfl rfl (by decide) (by decide) (fun H locs hP hD hS hR => ?_)
                have hP : va_P D vwCl [(a_p3, .inl (cI, 60, .inl b18_c_p3)), (a_p4_letters, .inl (cI, 4, .inl c_p4_letters)), (a_p4_ranks, .inl (cJ, 60, .inr (.inl c_p4_ranks))), (a_p4_sizes, .inl (cI, 60, .inl c_p4_sizes))] H := hP
                have hD : va_D A [(a_p3, .inl (cI, 60, .inl b18_c_p3)), (a_p4_letters, .inl (cI, 4, .inl c_p4_letters)), (a_p4_ranks, .inl (cJ, 60, .inr (.inl c_p4_ranks))), (a_p4_sizes, .inl (cI, 60, .inl c_p4_sizes))] := hD
                refine lv_i2l hx hb dX4_lay_58 rfl ?_
                refine lv_lload hx hb dX4_lay_59 (lv_at hl 3 rfl) ?_
                refine rk_lcgt (tgt := 71) hx hb dX4_lay_61 dX4_lay_62 (by decide) (fun hc5 => ?_) (fun hc5 => ?_)
                · have h := rk_if hc5 h
                  exact B71  h _ _ hP hD hS _ (lv_sub hl [0, 1, 2, 3, 4, 6, 7] rfl)
                · have h := rk_nif hc5 h
                  refine lv_iinc (v := (b35_l10 + 1)) (lv' := [(10, .int (b35_l10 + 1)), (0, .ref a_this), (3, .ref a_p3), (4, .ref a_p4), (5, .long b18_l5), (7, .int b18_l7), (8, .int b18_l8), (9, .int b18_l9)]) hx hb dX4_lay_65 hl (k := 7) rfl rfl (by decide) rfl (fun ls hl => ?_)
                  refine lv_goto (tgt := 35) hx hb dX4_lay_68 (by decide) ?_
                  exact ih35 (b35_l10 + 1) h _ _ hP hD hS _ (lv_sub hl [1, 2, 3, 4, 5, 6, 7, 0] rfl)
        exact L35 FU (if (1 : Int32) < b18_l7 then (1 : Int32) else b18_l7) h _ _ hP hD hS _ (lv_sub hl [1, 2, 3, 4, 5, 6, 7, 0] rfl)
  exact L18 FU v_p1 f_this_width f_this_greatest (0 : Int32) c_p3 h _ _ hP hD hS _ (lv_sub hl [4, 6, 7, 3, 2, 1, 0] rfl)
set_option maxHeartbeats 4000000 in
set_option maxRecDepth 100000 in
theorem mtX4_turn (l : Launch) (D : va_G) (cI cJ cO : ClassId) (PL : va_W) (sz : Nat) (a_p2 : Nat) (c_p2 : Nat → Int32) (a_this : Nat) (f_this_number : Int32) (f_this_width : Int32) (f_this_size : Int64) (f_this_greatest : Int32) (a_p1 : Nat) (c_p1 : Nat → Int32) (a_p3 : Nat) (a_p3_binomials : Nat) (a_p3_partitionCounts : Nat) (a_p3_treeCounts : Nat) (a_p3_sizes : Nat) (a_p3_starts : Nat) (a_p3_ranks : Nat) (a_p3_letters : Nat) (c_p3_sizes : Nat → Int32) (c_p3_starts : Nat → Int32) (r0 : (Nat → Int32) × (Nat → Int32) × (Nat → Int32)) (h : fX4_turn c_p2 f_this_width c_p1 c_p3_sizes c_p3_starts = some r0) : Met l yX4_turn (rk_w yX4_turn cX4_turn 7 none) rmX4_turn (va_Pc [.ref a_this, .ref a_p1, .ref a_p2, .ref a_p3] (rk_B D (rk_TY cI cJ cO) [(a_p2, .inl (cI, 60, .inl c_p2)), (a_p3_sizes, .inl (cI, 60, .inl c_p3_sizes)), (a_p3_starts, .inl (cI, 60, .inl c_p3_starts))] [(a_this, .inr (3, [.int f_this_number, .int f_this_width, .long f_this_size, .int f_this_greatest])), (a_p1, .inl (cI, 60, .inl c_p1)), (a_p3, .inr (2, [.ref a_p3_binomials, .ref a_p3_partitionCounts, .ref a_p3_treeCounts, .ref a_p3_sizes, .ref a_p3_starts, .ref a_p3_ranks, .ref a_p3_letters]))] PL sz)) (rk_Qv D [(a_p2, .inl (cI, 60, .inl r0.1)), (a_p3_sizes, .inl (cI, 60, .inl r0.2.1)), (a_p3_starts, .inl (cI, 60, .inl r0.2.2))] [(a_p2, .inl (cI, 60, .inl c_p2)), (a_p3_sizes, .inl (cI, 60, .inl c_p3_sizes)), (a_p3_starts, .inl (cI, 60, .inl c_p3_starts))] sz) 0 0 (va_A [(a_p2, .inl (cI, 60, .inl c_p2)), (a_p3_sizes, .inl (cI, 60, .inl c_p3_sizes)), (a_p3_starts, .inl (cI, 60, .inl c_p3_starts))] sz) := by
  refine rk_metv h (fun x => [(a_p2, .inl (cI, 60, .inl x.1)), (a_p3_sizes, .inl (cI, 60, .inl x.2.1)), (a_p3_starts, .inl (cI, 60, .inl x.2.2))]) (by decide) (Nat.le_of_ble_eq_true rfl) ?_
  intro p e s m args below meth c A ls Q hret hname hF hP hD hA hV hR0 hn hPL hnl hl h hS
  have hx := hF.1
  have hb := hF.2.1
  have hml := hF.2.2.1
  have hown : s.vm.findClass RX4 = some m.cls := hF.2.2.2.1
  have htc := hF.2.2.2.2
  have hP : va_P D vwCl [(a_p2, .inl (cI, 60, .inl c_p2)), (a_p3_sizes, .inl (cI, 60, .inl c_p3_sizes)), (a_p3_starts, .inl (cI, 60, .inl c_p3_starts))] s.heap := hP
  have hD : va_D A [(a_p2, .inl (cI, 60, .inl c_p2)), (a_p3_sizes, .inl (cI, 60, .inl c_p3_sizes)), (a_p3_starts, .inl (cI, 60, .inl c_p3_starts))] := hD
  have hR0 : va_P D vwCl [(a_this, .inr (3, [.int f_this_number, .int f_this_width, .long f_this_size, .int f_this_greatest])), (a_p1, .inl (cI, 60, .inl c_p1)), (a_p3, .inr (2, [.ref a_p3_binomials, .ref a_p3_partitionCounts, .ref a_p3_treeCounts, .ref a_p3_sizes, .ref a_p3_starts, .ref a_p3_ranks, .ref a_p3_letters]))] s.heap := hR0
  have hR := hR0
  have hl : lv_has ls 7 [(0, .ref a_this), (1, .ref a_p1), (2, .ref a_p2), (3, .ref a_p3)] := hl
  unfold fX4_turn at h
  refine lv_iconst (v := 0) hx hb dX4_turn_0 (by decide) ?_
  refine lv_istore (lv' := [(4, .int (0 : Int32)), (0, .ref a_this), (1, .ref a_p1), (2, .ref a_p2), (3, .ref a_p3)]) hx hb dX4_turn_1 hl (by decide) rfl (fun ls hl => ?_)
  have L3 : ∀ (n3 : Nat) (b3_l4 : Int32) (b3_c_p2 : Nat → Int32), rk_it2 (fX4_turn_L3 f_this_width c_p1 c_p3_sizes c_p3_starts) n3 b3_l4 b3_c_p2 = some r0 → ∀ (H : Heap) (locs : List Loc), va_P D vwCl [(a_p2, .inl (cI, 60, .inl b3_c_p2)), (a_p3_sizes, .inl (cI, 60, .inl c_p3_sizes)), (a_p3_starts, .inl (cI, 60, .inl c_p3_starts))] H → va_D A [(a_p2, .inl (cI, 60, .inl b3_c_p2)), (a_p3_sizes, .inl (cI, 60, .inl c_p3_sizes)), (a_p3_starts, .inl (cI, 60, .inl c_p3_starts))] → va_S A s.heap H locs → ∀ (ls : Array Slot), lv_has ls 7 [(0, .ref a_this), (1, .ref a_p1), (2, .ref a_p2), (4, .int b3_l4)] → W p l e rmX4_turn s m args below meth c H locs 0 0 Q (F0 m 3 ls []) := by
    intro n3
    induction n3 with
    | zero => intro b3_l4 b3_c_p2 h; exact rk_no h
    | succ n3 ih3 =>
      intro b3_l4 b3_c_p2 h H locs hP hD hS ls hl
      have h : fX4_turn_L3 f_this_width c_p1 c_p3_sizes c_p3_starts (rk_it2 (fX4_turn_L3 f_this_width c_p1 c_p3_sizes c_p3_starts) n3) b3_l4 b3_c_p2 = some r0 := h
      unfold fX4_turn_L3 at h
      have hR := rk_keep hR0 hn hS
      refine lv_iload hx hb dX4_turn_3 (lv_at hl 3 rfl) ?_
      refine lv_aload_n hx hb dX4_turn_5 rfl (lv_at hl 0 rfl) ?_
      refine va_get (D := D) (ci := 3) (v := .int f_this_width) (C := RX4) (T := TX4) (N := 4) hx hb htc inX4 hown hV.1 hR 0 rfl rfl 1 (by decide) (htc _ w_1_125) (fun _ h9 => u_same (htc _ w_1_126) _ h9) rfl dX4_turn_6 ?_
      refine lv_icmp_ge (tgt := 61) hx hb dX4_turn_9 (by decide) (fun hc1 => ?_) (fun hc1 => ?_)
      · have h := rk_if hc1 h
        exact hret (b3_c_p2, c_p3_sizes, c_p3_starts) _ _ _ _ h dX4_turn_61 hP hD hS
      · have h := rk_nif hc1 h
        refine lv_iconst (v := 0) hx hb dX4_turn_12 (by decide) ?_
        refine lv_istore (lv' := [(5, .int (0 : Int32)), (0, .ref a_this), (1, .ref a_p1), (2, .ref a_p2), (4, .int b3_l4)]) hx hb dX4_turn_13 hl (by decide) rfl (fun ls hl => ?_)
        refine lv_iconst (v := 0) hx hb dX4_turn_15 (by decide) ?_
        refine lv_istore (lv' := [(6, .int (0 : Int32)), (5, .int (0 : Int32)), (0, .ref a_this), (1, .ref a_p1), (2, .ref a_p2), (4, .int b3_l4)]) hx hb dX4_turn_16 hl (by decide) rfl (fun ls hl => ?_)
        have L18 : ∀ (n18 : Nat) (b18_l5 : Int32) (b18_l6 : Int32), rk_it2 (fX4_turn_L18 f_this_width c_p1 b3_l4 b3_c_p2 (rk_it2 (fX4_turn_L3 f_this_width c_p1 c_p3_sizes c_p3_starts) n3)) n18 b18_l5 b18_l6 = some r0 → ∀ (H : Heap) (locs : List Loc), va_P D vwCl [(a_p2, .inl (cI, 60, .inl b3_c_p2)), (a_p3_sizes, .inl (cI, 60, .inl c_p3_sizes)), (a_p3_starts, .inl (cI, 60, .inl c_p3_starts))] H → va_D A [(a_p2, .inl (cI, 60, .inl b3_c_p2)), (a_p3_sizes, .inl (cI, 60, .inl c_p3_sizes)), (a_p3_starts, .inl (cI, 60, .inl c_p3_starts))] → va_S A s.heap H locs → ∀ (ls : Array Slot), lv_has ls 7 [(0, .ref a_this), (1, .ref a_p1), (2, .ref a_p2), (4, .int b3_l4), (5, .int b18_l5), (6, .int b18_l6)] → W p l e rmX4_turn s m args below meth c H locs 0 0 Q (F0 m 18 ls []) := by
          intro n18
          induction n18 with
          | zero => intro b18_l5 b18_l6 h; exact rk_no h
          | succ n18 ih18 =>
            intro b18_l5 b18_l6 h H locs hP hD hS ls hl
            have h : fX4_turn_L18 f_this_width c_p1 b3_l4 b3_c_p2 (rk_it2 (fX4_turn_L3 f_this_width c_p1 c_p3_sizes c_p3_starts) n3) (rk_it2 (fX4_turn_L18 f_this_width c_p1 b3_l4 b3_c_p2 (rk_it2 (fX4_turn_L3 f_this_width c_p1 c_p3_sizes c_p3_starts) n3)) n18) b18_l5 b18_l6 = some r0 := h
            unfold fX4_turn_L18 at h
            have hR := rk_keep hR0 hn hS
            refine lv_iload hx hb dX4_turn_18 (lv_at hl 5 rfl) ?_
            refine lv_aload_n hx hb dX4_turn_20 rfl (lv_at hl 0 rfl) ?_
            refine va_get (D := D) (ci := 3) (v := .int f_this_width) (C := RX4) (T := TX4) (N := 4) hx hb htc inX4 hown hV.1 hR 0 rfl rfl 1 (by decide) (htc _ w_1_125) (fun _ h9 => u_same (htc _ w_1_126) _ h9) rfl dX4_turn_21 ?_
            refine lv_icmp_ge (tgt := 47) hx hb dX4_turn_24 (by decide) (fun hc2 => ?_) (fun hc2 => ?_)
            · have h := rk_if hc2 h
              refine lv_aload_n hx hb dX4_turn_47 rfl (lv_at hl 2 rfl) ?_
              refine lv_iload hx hb dX4_turn_48 (lv_at hl 3 rfl) ?_
              refine lv_iload hx hb dX4_turn_50 (lv_at hl 4 rfl) ?_
              obtain ⟨r_52, hc_52, h⟩ := rk_bd h
              refine rk_v (wr := [(a_p3_sizes, .inl (cI, 60, .inl c_p3_sizes)), (a_p3_starts, .inl (cI, 60, .inl c_p3_starts))]) (va_runSN (As := [.ref a_p2, .int b3_l4, .int b18_l5]) (rest := []) hF (mtX9_set l D cI cJ cO PL _ a_p2 60 b3_c_p2 b3_l4 b18_l5 r_52 hc_52) ⟨va_cnB 3 htc (rk_gw w_1_46) rfl rfl rfl (hV.2.1 _ nw_1_216) (htc _ w_1_1) (by decide +kernel) ⟨(Nat.le_of_ble_eq_true rfl), (Nat.le_of_ble_eq_true rfl)⟩, htc _ w_1_45, trivial⟩ (rk_preS hP hD hS hR hn hPL hnl hV [0] [] rfl (by decide) rfl (by decide)) rfl rfl hl.1 rfl (lv_room (Nat.le_of_ble_eq_true rfl)) dX4_turn_52 ⟨(Nat.le_of_ble_eq_true rfl), (Nat.le_of_ble_eq_true rfl)⟩) hP hD hS hA hR0 hn [0] [1, 2] rfl rfl (by decide) (by decide) (fun H locs hP hD hS hR => ?_)
              have hP : va_P D vwCl [(a_p3_sizes, .inl (cI, 60, .inl c_p3_sizes)), (a_p3_starts, .inl (cI, 60, .inl c_p3_starts)), (a_p2, .inl (cI, 60, .inl r_52))] H := hP
              have hD : va_D A [(a_p3_sizes, .inl (cI, 60, .inl c_p3_sizes)), (a_p3_starts, .inl (cI, 60, .inl c_p3_starts)), (a_p2, .inl (cI, 60, .inl r_52))] := hD
              refine lv_iinc (v := (b3_l4 + 1)) (lv' := [(4, .int (b3_l4 + 1)), (0, .ref a_this), (1, .ref a_p1), (2, .ref a_p2), (5, .int b18_l5), (6, .int b18_l6)]) hx hb dX4_turn_55 hl (k := 3) rfl rfl (by decide) rfl (fun ls hl => ?_)
              refine lv_goto (tgt := 3) hx hb dX4_turn_58 (by decide) ?_
              exact ih3 (b3_l4 + 1) r_52 h _ _ (hP.sub [2, 0, 1] rfl) (hD.sub [2, 0, 1] (by decide) rfl) hS _ (lv_sub hl [1, 2, 3, 0] rfl)
            · have h := rk_nif hc2 h
              refine lv_aload_n hx hb dX4_turn_27 rfl (lv_at hl 1 rfl) ?_
              refine lv_iload hx hb dX4_turn_28 (lv_at hl 5 rfl) ?_
              obtain ⟨r_30, hc_30, h⟩ := rk_bd h
              refine rk_i (wr := [(a_p2, .inl (cI, 60, .inl b3_c_p2)), (a_p3_sizes, .inl (cI, 60, .inl c_p3_sizes)), (a_p3_starts, .inl (cI, 60, .inl c_p3_starts))]) (va_runSN (As := [.ref a_p1, .int b18_l6]) (rest := []) hF (mtX9_at l D cI cJ cO PL _ a_p1 60 c_p1 b18_l6 r_30 hc_30) ⟨va_cnB 2 htc (rk_gw w_1_52) rfl rfl rfl (hV.2.1 _ nw_2_232) (htc _ w_1_1) (by decide +kernel) ⟨(Nat.le_of_ble_eq_true rfl), (Nat.le_of_ble_eq_true rfl)⟩, htc _ w_1_51, trivial⟩ (rk_preS hP hD hS hR hn hPL hnl hV [] [(false, 1)] rfl (by decide) rfl (by decide)) rfl rfl hl.1 rfl (lv_room (Nat.le_of_ble_eq_true rfl)) dX4_turn_30 ⟨(Nat.le_of_ble_eq_true rfl), (Nat.le_of_ble_eq_true rfl)⟩) hP hD hS hA hR0 hn [] [0, 1, 2] rfl rfl (by decide) (by decide) (fun H locs hP hD hS hR => ?_)
              have hP : va_P D vwCl [(a_p2, .inl (cI, 60, .inl b3_c_p2)), (a_p3_sizes, .inl (cI, 60, .inl c_p3_sizes)), (a_p3_starts, .inl (cI, 60, .inl c_p3_starts))] H := hP
              have hD : va_D A [(a_p2, .inl (cI, 60, .inl b3_c_p2)), (a_p3_sizes, .inl (cI, 60, .inl c_p3_sizes)), (a_p3_starts, .inl (cI, 60, .inl c_p3_starts))] := hD
              refine lv_iload hx hb dX4_turn_33 (lv_at hl 3 rfl) ?_
              have B41 : ∀ (b41_l5 : Int32), fX4_turn_B41 b18_l6 (rk_it2 (fX4_turn_L18 f_this_width c_p1 b3_l4 b3_c_p2 (rk_it2 (fX4_turn_L3 f_this_width c_p1 c_p3_sizes c_p3_starts) n3)) n18) b41_l5 = some r0 → ∀ (H : Heap) (locs : List Loc), va_P D vwCl [(a_p2, .inl (cI, 60, .inl b3_c_p2)), (a_p3_sizes, .inl (cI, 60, .inl c_p3_sizes)), (a_p3_starts, .inl (cI, 60, .inl c_p3_starts))] H → va_D A [(a_p2, .inl (cI, 60, .inl b3_c_p2)), (a_p3_sizes, .inl (cI, 60, .inl c_p3_sizes)), (a_p3_starts, .inl (cI, 60, .inl c_p3_starts))] → va_S A s.heap H locs → ∀ (ls : Array Slot), lv_has ls 7 [(0, .ref a_this), (1, .ref a_p1), (2, .ref a_p2), (4, .int b3_l4), (5, .int b41_l5), (6, .int b18_l6)] → W p l e rmX4_turn s m args below meth c H locs 0 0 Q (F0 m 41 ls []) := by
                intro b41_l5 h H locs hP hD hS ls hl
                unfold fX4_turn_B41 at h
                have hR := rk_keep hR0 hn hS
                refine lv_iinc (v := (b18_l6 + 1)) (lv' := [(6, .int (b18_l6 + 1)), (0, .ref a_this), (1, .ref a_p1), (2, .ref a_p2), (4, .int b3_l4), (5, .int b41_l5)]) hx hb dX4_turn_41 hl (k := 5) rfl rfl (by decide) rfl (fun ls hl => ?_)
                refine lv_goto (tgt := 18) hx hb dX4_turn_44 (by decide) ?_
                exact ih18 b41_l5 (b18_l6 + 1) h _ _ hP hD hS _ (lv_sub hl [1, 2, 3, 4, 5, 0] rfl)
              refine lv_icmp_le (tgt := 41) hx hb dX4_turn_35 (by decide) (fun hc3 => ?_) (fun hc3 => ?_)
              · have h := rk_if hc3 h
                exact B41 b18_l5 h _ _ hP hD hS _ hl
              · have h := rk_nif hc3 h
                refine lv_iinc (v := (b18_l5 + 1)) (lv' := [(5, .int (b18_l5 + 1)), (0, .ref a_this), (1, .ref a_p1), (2, .ref a_p2), (4, .int b3_l4), (6, .int b18_l6)]) hx hb dX4_turn_38 hl (k := 4) rfl rfl (by decide) rfl (fun ls hl => ?_)
                exact B41 (b18_l5 + 1) h _ _ hP hD hS _ (lv_sub hl [1, 2, 3, 4, 0, 5] rfl)
        exact L18 FU (0 : Int32) (0 : Int32) h _ _ hP hD hS _ (lv_sub hl [2, 3, 4, 5, 1, 0] rfl)
  exact L3 FU (0 : Int32) c_p2 h _ _ hP hD hS _ (lv_sub hl [1, 2, 3, 0] rfl)
set_option maxHeartbeats 4000000 in
set_option maxRecDepth 100000 in
theorem mtX3_init_X5 (l : Launch) (D : va_G) (cI cJ cO : ClassId) (PL : va_W) (sz : Nat) (a_this : Nat) (v_p1 : Int32) (v_p2 : Int32) (v_p3 : Int64) (r0 : Int32 × Int32 × Int64 × Int32) (h : fX3_init_X5 v_p1 v_p2 v_p3 = some r0) : Met l yX3_init (rk_w yX3_init cX3_init 5 none) rmX3_init_X5 (va_Pc [.ref a_this, .int v_p1, .int v_p2, .long v_p3] (rk_B D (rk_TY cI cJ cO) [(a_this, .inr (4, [.int 0, .int 0, .long 0, .int 0]))] [] PL sz)) (rk_Qv D [(a_this, .inr (4, [.int r0.1, .int r0.2.1, .long r0.2.2.1, .int r0.2.2.2]))] [(a_this, .inr (4, [.int 0, .int 0, .long 0, .int 0]))] sz) 0 0 (va_A [(a_this, .inr (4, [.int 0, .int 0, .long 0, .int 0]))] sz) := by
  refine rk_metv h (fun x => [(a_this, .inr (4, [.int x.1, .int x.2.1, .long x.2.2.1, .int x.2.2.2]))]) (by decide) (Nat.le_of_ble_eq_true rfl) ?_
  intro p e s m args below meth c A ls Q hret hname hF hP hD hA hV hR0 hn hPL hnl hl h hS
  have hx := hF.1
  have hb := hF.2.1
  have hml := hF.2.2.1
  have hown : s.vm.findClass RX3 = some m.cls := hF.2.2.2.1
  have htc := hF.2.2.2.2
  have hname : meth.name = "<init>" := hname
  have hP : va_P D vwCl [(a_this, .inr (4, [.int 0, .int 0, .long 0, .int 0]))] s.heap := hP
  have hD : va_D A [(a_this, .inr (4, [.int 0, .int 0, .long 0, .int 0]))] := hD
  have hR0 : va_P D vwCl [] s.heap := hR0
  have hR := hR0
  have hl : lv_has ls 5 [(0, .ref a_this), (1, .int v_p1), (2, .int v_p2), (3, .long v_p3)] := hl
  unfold fX3_init_X5 at h
  refine lv_aload_n hx hb dX3_init_0 rfl (lv_at hl 0 rfl) ?_
  refine W.objInit hx hb hown (htc _ w_1_116) (htc _ w_1_21) (htc _ w_1_22) rfl (by rw [hml]; exact hl.1) rfl dX3_init_1 (Nat.le_of_ble_eq_true rfl) (Nat.le_of_ble_eq_true rfl) ?_
  refine W.eq (g2 := F0 m 4 ls []) rfl ?_
  refine lv_aload_n hx hb dX3_init_4 rfl (lv_at hl 0 rfl) ?_
  refine lv_iload_n hx hb dX3_init_5 rfl (lv_at hl 1 rfl) ?_
  refine va_putF (D := D) (ci := 4) (v := .int v_p1) (ty := .int) (C := RX5) (T := TX5) (N := 4) hx hb htc inX5 tyX5 tyX5_ok nmX5 hown hV.1 hP hD hS 0 rfl rfl 0 (by decide) (htc _ w_1_119) (fun _ h9 => h9) rfl hname rfl (by decide +kernel) rfl rfl (Nat.le_of_ble_eq_true rfl) dX3_init_6 (fun H locs hP hD hS => ?_)
  have hP : va_P D vwCl [(a_this, .inr (4, [.int v_p1, .int 0, .long 0, .int 0]))] H := hP
  have hD : va_D A [(a_this, .inr (4, [.int v_p1, .int 0, .long 0, .int 0]))] := hD
  refine lv_aload_n hx hb dX3_init_9 rfl (lv_at hl 0 rfl) ?_
  refine lv_iload_n hx hb dX3_init_10 rfl (lv_at hl 2 rfl) ?_
  refine va_putF (D := D) (ci := 4) (v := .int v_p2) (ty := .int) (C := RX5) (T := TX5) (N := 4) hx hb htc inX5 tyX5 tyX5_ok nmX5 hown hV.1 hP hD hS 0 rfl rfl 1 (by decide) (htc _ w_1_122) (fun _ h9 => h9) rfl hname rfl (by decide +kernel) rfl rfl (Nat.le_of_ble_eq_true rfl) dX3_init_11 (fun H locs hP hD hS => ?_)
  have hP : va_P D vwCl [(a_this, .inr (4, [.int v_p1, .int v_p2, .long 0, .int 0]))] H := hP
  have hD : va_D A [(a_this, .inr (4, [.int v_p1, .int v_p2, .long 0, .int 0]))] := hD
  refine lv_aload_n hx hb dX3_init_14 rfl (lv_at hl 0 rfl) ?_
  refine lv_lload_n hx hb dX3_init_15 rfl (lv_at hl 3 rfl) ?_
  refine va_putF (D := D) (ci := 4) (v := .long v_p3) (ty := .long) (C := RX5) (T := TX5) (N := 4) hx hb htc inX5 tyX5 tyX5_ok nmX5 hown hV.1 hP hD hS 0 rfl rfl 2 (by decide) (htc _ w_1_136) (fun _ h9 => h9) rfl hname rfl (by decide +kernel) rfl rfl (Nat.le_of_ble_eq_true rfl) dX3_init_16 (fun H locs hP hD hS => ?_)
  have hP : va_P D vwCl [(a_this, .inr (4, [.int v_p1, .int v_p2, .long v_p3, .int 0]))] H := hP
  have hD : va_D A [(a_this, .inr (4, [.int v_p1, .int v_p2, .long v_p3, .int 0]))] := hD
  exact hret (v_p1, v_p2, v_p3, 0) _ _ _ _ h dX3_init_19 hP hD hS
set_option maxHeartbeats 4000000 in
set_option maxRecDepth 100000 in
theorem mtX5_init (l : Launch) (D : va_G) (cI cJ cO : ClassId) (PL : va_W) (sz : Nat) (a_this : Nat) (v_p1 : Int32) (v_p2 : Int32) (v_p3 : Int64) (r0 : Int32 × Int32 × Int64 × Int32) (h : fX5_init v_p1 v_p2 v_p3 = some r0) : Met l yX5_init (rk_w yX5_init cX5_init 5 none) rmX5_init (va_Pc [.ref a_this, .int v_p1, .int v_p2, .long v_p3] (rk_B D (rk_TY cI cJ cO) [(a_this, .inr (4, [.int 0, .int 0, .long 0, .int 0]))] [] PL sz)) (rk_Qv D [(a_this, .inr (4, [.int r0.1, .int r0.2.1, .long r0.2.2.1, .int r0.2.2.2]))] [(a_this, .inr (4, [.int 0, .int 0, .long 0, .int 0]))] sz) 0 0 (va_A [(a_this, .inr (4, [.int 0, .int 0, .long 0, .int 0]))] sz) := by
  refine rk_metv h (fun x => [(a_this, .inr (4, [.int x.1, .int x.2.1, .long x.2.2.1, .int x.2.2.2]))]) (by decide) (Nat.le_of_ble_eq_true rfl) ?_
  intro p e s m args below meth c A ls Q hret hname hF hP hD hA hV hR0 hn hPL hnl hl h hS
  have hx := hF.1
  have hb := hF.2.1
  have hml := hF.2.2.1
  have hown : s.vm.findClass RX5 = some m.cls := hF.2.2.2.1
  have htc := hF.2.2.2.2
  have hname : meth.name = "<init>" := hname
  have hP : va_P D vwCl [(a_this, .inr (4, [.int 0, .int 0, .long 0, .int 0]))] s.heap := hP
  have hD : va_D A [(a_this, .inr (4, [.int 0, .int 0, .long 0, .int 0]))] := hD
  have hR0 : va_P D vwCl [] s.heap := hR0
  have hR := hR0
  have hl : lv_has ls 5 [(0, .ref a_this), (1, .int v_p1), (2, .int v_p2), (3, .long v_p3)] := hl
  unfold fX5_init at h
  refine lv_aload_n hx hb dX5_init_0 rfl (lv_at hl 0 rfl) ?_
  refine lv_iconst (v := 1) hx hb dX5_init_1 (by decide) ?_
  refine lv_iload_n hx hb dX5_init_2 rfl (lv_at hl 1 rfl) ?_
  refine lv_lload_n hx hb dX5_init_3 rfl (lv_at hl 3 rfl) ?_
  obtain ⟨r_4, hc_4, h⟩ := rk_bd h
  refine rk_v (wr := []) (va_runI (As := [.int (1 : Int32), .int v_p1, .long v_p3]) (rest := []) hF (mtX3_init_X5 l D cI cJ cO PL _ a_this (1 : Int32) v_p1 v_p3 r_4 hc_4) (cwI 3 htc (rk_gw w_1_115) rfl rfl rfl (htc _ w_1_5) (htc _ w_2_74) (htc _ w_1_114) rfl (by decide +kernel) ⟨(Nat.le_of_ble_eq_true rfl), (Nat.le_of_ble_eq_true rfl)⟩) (rk_preS hP hD hS rk_nilP hn hPL hnl hV [0] [] rfl (by decide) rfl (by decide)) rfl rfl hl.1 rfl (lv_room (Nat.le_of_ble_eq_true rfl)) dX5_init_4 ⟨(Nat.le_of_ble_eq_true rfl), (Nat.le_of_ble_eq_true rfl)⟩) hP hD hS hA hR0 hn [0] [] rfl rfl (by decide) (by decide) (fun H locs hP hD hS hR => ?_)
  have hP : va_P D vwCl [(a_this, .inr (4, [.int r_4.1, .int r_4.2.1, .long r_4.2.2.1, .int r_4.2.2.2]))] H := hP
  have hD : va_D A [(a_this, .inr (4, [.int r_4.1, .int r_4.2.1, .long r_4.2.2.1, .int r_4.2.2.2]))] := hD
  refine lv_aload_n hx hb dX5_init_7 rfl (lv_at hl 0 rfl) ?_
  refine lv_iload_n hx hb dX5_init_8 rfl (lv_at hl 2 rfl) ?_
  refine va_putF (D := D) (ci := 4) (v := .int v_p2) (ty := .int) (C := RX5) (T := TX5) (N := 4) hx hb htc inX5 tyX5 tyX5_ok nmX5 hown hV.1 hP hD hS 0 rfl rfl 3 (by decide) (htc _ w_2_75) (fun _ h9 => h9) rfl hname rfl (by decide +kernel) rfl rfl (Nat.le_of_ble_eq_true rfl) dX5_init_9 (fun H locs hP hD hS => ?_)
  have hP : va_P D vwCl [(a_this, .inr (4, [.int r_4.1, .int r_4.2.1, .long r_4.2.2.1, .int v_p2]))] H := hP
  have hD : va_D A [(a_this, .inr (4, [.int r_4.1, .int r_4.2.1, .long r_4.2.2.1, .int v_p2]))] := hD
  exact hret (r_4.1, r_4.2.1, r_4.2.2.1, v_p2) _ _ _ _ h dX5_init_12 hP hD hS
set_option maxHeartbeats 4000000 in
set_option maxRecDepth 100000 in
theorem mtX5_factorial (l : Launch) (D : va_G) (cI cJ cO : ClassId) (PL : va_W) (sz : Nat) (v_p0 : Int32) (r0 : Int64) (h : fX5_factorial v_p0 = some r0) : Met l yX5_factorial (rk_w yX5_factorial cX5_factorial 4 (some .long)) rmX5_factorial (va_Pc [.int v_p0] (rk_B D (rk_TY cI cJ cO) [] [] PL sz)) (rk_Ql r0 D [] [] sz) 0 0 (va_A [] sz) := by
  refine rk_metl h (fun x : Int64 => x) (fun x => []) (by decide) (Nat.le_of_ble_eq_true rfl) ?_
  intro p e s m args below meth c A ls Q hret hname hF hP hD hA hV hR0 hn hPL hnl hl h hS
  have hx := hF.1
  have hb := hF.2.1
  have hml := hF.2.2.1
  have hown : s.vm.findClass RX5 = some m.cls := hF.2.2.2.1
  have htc := hF.2.2.2.2
  have hP : va_P D vwCl [] s.heap := hP
  have hD : va_D A [] := hD
  have hR0 : va_P D vwCl [] s.heap := hR0
  have hR := hR0
  have hl : lv_has ls 4 [(0, .int v_p0)] := hl
  unfold fX5_factorial at h
  refine lv_lconst (v := 1) hx hb dX5_factorial_0 (by decide) ?_
  refine lv_lstore_n (lv' := [(1, .long (1 : Int64)), (0, .int v_p0)]) hx hb dX5_factorial_1 rfl hl (by decide) rfl (fun ls hl => ?_)
  refine lv_iconst (v := 2) hx hb dX5_factorial_2 (by decide) ?_
  refine lv_istore_n (lv' := [(3, .int (2 : Int32)), (1, .long (1 : Int64)), (0, .int v_p0)]) hx hb dX5_factorial_3 rfl hl (by decide) rfl (fun ls hl => ?_)
  have L4 : ∀ (n4 : Nat) (b4_l1 : Int64) (b4_l3 : Int32), rk_it2 (fX5_factorial_L4 v_p0) n4 b4_l1 b4_l3 = some r0 → ∀ (H : Heap) (locs : List Loc), va_P D vwCl [] H → va_D A [] → va_S A s.heap H locs → ∀ (ls : Array Slot), lv_has ls 4 [(0, .int v_p0), (1, .long b4_l1), (3, .int b4_l3)] → W p l e rmX5_factorial s m args below meth c H locs 0 0 Q (F0 m 4 ls []) := by
    intro n4
    induction n4 with
    | zero => intro b4_l1 b4_l3 h; exact rk_no h
    | succ n4 ih4 =>
      intro b4_l1 b4_l3 h H locs hP hD hS ls hl
      have h : fX5_factorial_L4 v_p0 (rk_it2 (fX5_factorial_L4 v_p0) n4) b4_l1 b4_l3 = some r0 := h
      unfold fX5_factorial_L4 at h
      refine lv_iload_n hx hb dX5_factorial_4 rfl (lv_at hl 2 rfl) ?_
      refine lv_iload_n hx hb dX5_factorial_5 rfl (lv_at hl 0 rfl) ?_
      refine lv_icmp_gt (tgt := 20) hx hb dX5_factorial_6 (by decide) (fun hc1 => ?_) (fun hc1 => ?_)
      · have h := rk_if hc1 h
        refine lv_lload_n hx hb dX5_factorial_20 rfl (lv_at hl 1 rfl) ?_
        exact hret b4_l1 _ _ _ _ h dX5_factorial_21 hP hD hS
      · have h := rk_nif hc1 h
        refine lv_lload_n hx hb dX5_factorial_9 rfl (lv_at hl 1 rfl) ?_
        refine lv_iload_n hx hb dX5_factorial_10 rfl (lv_at hl 2 rfl) ?_
        refine lv_i2l hx hb dX5_factorial_11 rfl ?_
        refine lv_lmul hx hb dX5_factorial_12 ?_
        refine lv_lstore_n (lv' := [(1, .long (b4_l1 * b4_l3.toInt64)), (0, .int v_p0), (3, .int b4_l3)]) hx hb dX5_factorial_13 rfl hl (by decide) rfl (fun ls hl => ?_)
        refine lv_iinc (v := (b4_l3 + 1)) (lv' := [(3, .int (b4_l3 + 1)), (1, .long (b4_l1 * b4_l3.toInt64)), (0, .int v_p0)]) hx hb dX5_factorial_14 hl (k := 2) rfl rfl (by decide) rfl (fun ls hl => ?_)
        refine lv_goto (tgt := 4) hx hb dX5_factorial_17 (by decide) ?_
        exact ih4 (b4_l1 * b4_l3.toInt64) (b4_l3 + 1) h _ _ hP hD hS _ (lv_sub hl [2, 1, 0] rfl)
  exact L4 FU (1 : Int64) (2 : Int32) h _ _ hP hD hS _ (lv_sub hl [2, 1, 0] rfl)
set_option maxHeartbeats 4000000 in
set_option maxRecDepth 100000 in
theorem mtX5_accepts (l : Launch) (D : va_G) (cI cJ cO : ClassId) (PL : va_W) (sz : Nat) (a_this : Nat) (f_this_number : Int32) (f_this_width : Int32) (f_this_size : Int64) (f_this_order : Int32) (a_p1 : Nat) (c_p1 : Nat → Int32) (a_p2 : Nat) (a_p2_binomials : Nat) (a_p2_partitionCounts : Nat) (a_p2_treeCounts : Nat) (a_p2_sizes : Nat) (a_p2_starts : Nat) (a_p2_ranks : Nat) (a_p2_letters : Nat) (c_p2_letters : Nat → Int32) (c_p2_sizes : Nat → Int32) (r0 : Int32 × (Nat → Int32) × (Nat → Int32)) (h : fX5_accepts f_this_width c_p1 c_p2_letters c_p2_sizes = some r0) : Met l yX5_accepts (rk_w yX5_accepts cX5_accepts 6 (some .boolean)) rmX5_accepts (va_Pc [.ref a_this, .ref a_p1, .ref a_p2] (rk_B D (rk_TY cI cJ cO) [(a_p2_letters, .inl (cI, 4, .inl c_p2_letters)), (a_p2_sizes, .inl (cI, 60, .inl c_p2_sizes))] [(a_this, .inr (4, [.int f_this_number, .int f_this_width, .long f_this_size, .int f_this_order])), (a_p1, .inl (cI, 60, .inl c_p1)), (a_p2, .inr (2, [.ref a_p2_binomials, .ref a_p2_partitionCounts, .ref a_p2_treeCounts, .ref a_p2_sizes, .ref a_p2_starts, .ref a_p2_ranks, .ref a_p2_letters]))] PL sz)) (rk_Qi r0.1 D [(a_p2_letters, .inl (cI, 4, .inl r0.2.1)), (a_p2_sizes, .inl (cI, 60, .inl r0.2.2))] [(a_p2_letters, .inl (cI, 4, .inl c_p2_letters)), (a_p2_sizes, .inl (cI, 60, .inl c_p2_sizes))] sz) 0 0 (va_A [(a_p2_letters, .inl (cI, 4, .inl c_p2_letters)), (a_p2_sizes, .inl (cI, 60, .inl c_p2_sizes))] sz) := by
  refine rk_metz h (fun x : Int32 × (Nat → Int32) × (Nat → Int32) => x.1) (fun x => [(a_p2_letters, .inl (cI, 4, .inl x.2.1)), (a_p2_sizes, .inl (cI, 60, .inl x.2.2))]) (by decide) (Nat.le_of_ble_eq_true rfl) ?_
  intro p e s m args below meth c A ls Q hret hname hF hP hD hA hV hR0 hn hPL hnl hl h hS
  have hx := hF.1
  have hb := hF.2.1
  have hml := hF.2.2.1
  have hown : s.vm.findClass RX5 = some m.cls := hF.2.2.2.1
  have htc := hF.2.2.2.2
  have hP : va_P D vwCl [(a_p2_letters, .inl (cI, 4, .inl c_p2_letters)), (a_p2_sizes, .inl (cI, 60, .inl c_p2_sizes))] s.heap := hP
  have hD : va_D A [(a_p2_letters, .inl (cI, 4, .inl c_p2_letters)), (a_p2_sizes, .inl (cI, 60, .inl c_p2_sizes))] := hD
  have hR0 : va_P D vwCl [(a_this, .inr (4, [.int f_this_number, .int f_this_width, .long f_this_size, .int f_this_order])), (a_p1, .inl (cI, 60, .inl c_p1)), (a_p2, .inr (2, [.ref a_p2_binomials, .ref a_p2_partitionCounts, .ref a_p2_treeCounts, .ref a_p2_sizes, .ref a_p2_starts, .ref a_p2_ranks, .ref a_p2_letters]))] s.heap := hR0
  have hR := hR0
  have hl : lv_has ls 6 [(0, .ref a_this), (1, .ref a_p1), (2, .ref a_p2)] := hl
  unfold fX5_accepts at h
  refine lv_iconst (v := 0) hx hb dX5_accepts_0 (by decide) ?_
  refine lv_istore_n (lv' := [(3, .int (0 : Int32)), (0, .ref a_this), (1, .ref a_p1), (2, .ref a_p2)]) hx hb dX5_accepts_1 rfl hl (by decide) rfl (fun ls hl => ?_)
  refine lv_iconst (v := 0) hx hb dX5_accepts_2 (by decide) ?_
  refine lv_istore (lv' := [(4, .int (0 : Int32)), (3, .int (0 : Int32)), (0, .ref a_this), (1, .ref a_p1), (2, .ref a_p2)]) hx hb dX5_accepts_3 hl (by decide) rfl (fun ls hl => ?_)
  have L5 : ∀ (n5 : Nat) (b5_l3 : Int32) (b5_l4 : Int32), rk_it2 (fX5_accepts_L5 f_this_width c_p1 c_p2_letters c_p2_sizes) n5 b5_l3 b5_l4 = some r0 → ∀ (H : Heap) (locs : List Loc), va_P D vwCl [(a_p2_letters, .inl (cI, 4, .inl c_p2_letters)), (a_p2_sizes, .inl (cI, 60, .inl c_p2_sizes))] H → va_D A [(a_p2_letters, .inl (cI, 4, .inl c_p2_letters)), (a_p2_sizes, .inl (cI, 60, .inl c_p2_sizes))] → va_S A s.heap H locs → ∀ (ls : Array Slot), lv_has ls 6 [(0, .ref a_this), (1, .ref a_p1), (3, .int b5_l3), (4, .int b5_l4)] → W p l e rmX5_accepts s m args below meth c H locs 0 0 Q (F0 m 5 ls []) := by
    intro n5
    induction n5 with
    | zero => intro b5_l3 b5_l4 h; exact rk_no h
    | succ n5 ih5 =>
      intro b5_l3 b5_l4 h H locs hP hD hS ls hl
      have h : fX5_accepts_L5 f_this_width c_p1 c_p2_letters c_p2_sizes (rk_it2 (fX5_accepts_L5 f_this_width c_p1 c_p2_letters c_p2_sizes) n5) b5_l3 b5_l4 = some r0 := h
      unfold fX5_accepts_L5 at h
      have hR := rk_keep hR0 hn hS
      refine lv_iload hx hb dX5_accepts_5 (lv_at hl 3 rfl) ?_
      refine lv_aload_n hx hb dX5_accepts_7 rfl (lv_at hl 0 rfl) ?_
      refine va_get (D := D) (ci := 4) (v := .int f_this_width) (C := RX5) (T := TX5) (N := 4) hx hb htc inX5 hown hV.1 hR 0 rfl rfl 1 (by decide) (htc _ w_1_129) (fun _ h9 => u_same (htc _ w_1_130) _ h9) rfl dX5_accepts_8 ?_
      refine lv_icmp_ge (tgt := 61) hx hb dX5_accepts_11 (by decide) (fun hc1 => ?_) (fun hc1 => ?_)
      · have h := rk_if hc1 h
        refine lv_iconst (v := 1) hx hb dX5_accepts_61 (by decide) ?_
        exact hret ((1 : Int32), c_p2_letters, c_p2_sizes) _ _ _ _ h rk_nb1 dX5_accepts_62 hP hD hS
      · have h := rk_nif hc1 h
        refine lv_aload_n hx hb dX5_accepts_14 rfl (lv_at hl 1 rfl) ?_
        refine lv_iload hx hb dX5_accepts_15 (lv_at hl 3 rfl) ?_
        obtain ⟨r_17, hc_17, h⟩ := rk_bd h
        refine rk_i (wr := [(a_p2_letters, .inl (cI, 4, .inl c_p2_letters)), (a_p2_sizes, .inl (cI, 60, .inl c_p2_sizes))]) (va_runSN (As := [.ref a_p1, .int b5_l4]) (rest := []) hF (mtX9_at l D cI cJ cO PL _ a_p1 60 c_p1 b5_l4 r_17 hc_17) ⟨va_cnB 2 htc (rk_gw w_1_52) rfl rfl rfl (hV.2.1 _ nw_1_239) (htc _ w_1_1) (by decide +kernel) ⟨(Nat.le_of_ble_eq_true rfl), (Nat.le_of_ble_eq_true rfl)⟩, htc _ w_1_51, trivial⟩ (rk_preS hP hD hS hR hn hPL hnl hV [] [(false, 1)] rfl (by decide) rfl (by decide)) rfl rfl hl.1 rfl (lv_room (Nat.le_of_ble_eq_true rfl)) dX5_accepts_17 ⟨(Nat.le_of_ble_eq_true rfl), (Nat.le_of_ble_eq_true rfl)⟩) hP hD hS hA hR0 hn [] [0, 1] rfl rfl (by decide) (by decide) (fun H locs hP hD hS hR => ?_)
        have hP : va_P D vwCl [(a_p2_letters, .inl (cI, 4, .inl c_p2_letters)), (a_p2_sizes, .inl (cI, 60, .inl c_p2_sizes))] H := hP
        have hD : va_D A [(a_p2_letters, .inl (cI, 4, .inl c_p2_letters)), (a_p2_sizes, .inl (cI, 60, .inl c_p2_sizes))] := hD
        refine lv_istore (lv' := [(5, .int r_17), (0, .ref a_this), (1, .ref a_p1), (3, .int b5_l3), (4, .int b5_l4)]) hx hb dX5_accepts_20 hl (by decide) rfl (fun ls hl => ?_)
        refine lv_iload hx hb dX5_accepts_22 (lv_at hl 0 rfl) ?_
        refine lv_if_lt (tgt := 46) hx hb dX5_accepts_24 (by decide) (fun hc2 => ?_) (fun hc2 => ?_)
        · have h := rk_if hc2 h
          refine lv_iconst (v := 0) hx hb dX5_accepts_46 (by decide) ?_
          exact hret ((0 : Int32), c_p2_letters, c_p2_sizes) _ _ _ _ h rk_nb0 dX5_accepts_47 hP hD hS
        · have h := rk_nif hc2 h
          refine lv_iload hx hb dX5_accepts_27 (lv_at hl 0 rfl) ?_
          refine lv_aload_n hx hb dX5_accepts_29 rfl (lv_at hl 1 rfl) ?_
          refine va_get (D := D) (ci := 4) (v := .int f_this_width) (C := RX5) (T := TX5) (N := 4) hx hb htc inX5 hown hV.1 hR 0 rfl rfl 1 (by decide) (htc _ w_1_129) (fun _ h9 => u_same (htc _ w_1_130) _ h9) rfl dX5_accepts_30 ?_
          refine lv_icmp_ge (tgt := 46) hx hb dX5_accepts_33 (by decide) (fun hc3 => ?_) (fun hc3 => ?_)
          · have h := rk_if hc3 h
            refine lv_iconst (v := 0) hx hb dX5_accepts_46 (by decide) ?_
            exact hret ((0 : Int32), c_p2_letters, c_p2_sizes) _ _ _ _ h rk_nb0 dX5_accepts_47 hP hD hS
          · have h := rk_nif hc3 h
            refine lv_iload_n hx hb dX5_accepts_36 rfl (lv_at hl 3 rfl) ?_
            refine lv_iload hx hb dX5_accepts_37 (lv_at hl 0 rfl) ?_
            refine lv_ishr hx hb dX5_accepts_39 ?_
            refine lv_iconst (v := 1) hx hb dX5_accepts_40 (by decide) ?_
            refine lv_iand hx hb dX5_accepts_41 ?_
            refine lv_iconst (v := 1) hx hb dX5_accepts_42 (by decide) ?_
            refine lv_icmp_ne (tgt := 48) hx hb dX5_accepts_43 (by decide) (fun hc4 => ?_) (fun hc4 => ?_)
            · have h := rk_if hc4 h
              refine lv_iload_n hx hb dX5_accepts_48 rfl (lv_at hl 3 rfl) ?_
              refine lv_iconst (v := 1) hx hb dX5_accepts_49 (by decide) ?_
              refine lv_iload hx hb dX5_accepts_50 (lv_at hl 0 rfl) ?_
              refine lv_ishl hx hb dX5_accepts_52 ?_
              refine lv_ior hx hb dX5_accepts_53 ?_
              refine lv_istore_n (lv' := [(3, .int (b5_l3 ||| ((1 : Int32) <<< (r_17 &&& 31)))), (5, .int r_17), (0, .ref a_this), (1, .ref a_p1), (4, .int b5_l4)]) hx hb dX5_accepts_54 rfl hl (by decide) rfl (fun ls hl => ?_)
              refine lv_iinc (v := (b5_l4 + 1)) (lv' := [(4, .int (b5_l4 + 1)), (3, .int (b5_l3 ||| ((1 : Int32) <<< (r_17 &&& 31)))), (5, .int r_17), (0, .ref a_this), (1, .ref a_p1)]) hx hb dX5_accepts_55 hl (k := 4) rfl rfl (by decide) rfl (fun ls hl => ?_)
              refine lv_goto (tgt := 5) hx hb dX5_accepts_58 (by decide) ?_
              exact ih5 (b5_l3 ||| ((1 : Int32) <<< (r_17 &&& 31))) (b5_l4 + 1) h _ _ hP hD hS _ (lv_sub hl [3, 4, 1, 0] rfl)
            · have h := rk_nnif hc4 h
              refine lv_iconst (v := 0) hx hb dX5_accepts_46 (by decide) ?_
              exact hret ((0 : Int32), c_p2_letters, c_p2_sizes) _ _ _ _ h rk_nb0 dX5_accepts_47 hP hD hS
  exact L5 FU (0 : Int32) (0 : Int32) h _ _ hP hD hS _ (lv_sub hl [2, 3, 1, 0] rfl)
set_option maxHeartbeats 4000000 in
set_option maxRecDepth 100000 in
theorem mtX5_lexicographicPlace (l : Launch) (D : va_G) (cI cJ cO : ClassId) (PL : va_W) (sz : Nat) (a_this : Nat) (f_this_number : Int32) (f_this_width : Int32) (f_this_size : Int64) (f_this_order : Int32) (a_p1 : Nat) (c_p1 : Nat → Int32) (r0 : Int64) (h : fX5_lexicographicPlace f_this_width c_p1 = some r0) : Met l yX5_lexicographicPlace (rk_w yX5_lexicographicPlace cX5_lexicographicPlace 7 (some .long)) rmX5_lexicographicPlace (va_Pc [.ref a_this, .ref a_p1] (rk_B D (rk_TY cI cJ cO) [] [(a_this, .inr (4, [.int f_this_number, .int f_this_width, .long f_this_size, .int f_this_order])), (a_p1, .inl (cI, 60, .inl c_p1))] PL sz)) (rk_Ql r0 D [] [] sz) 0 0 (va_A [] sz) := by
  refine rk_metl h (fun x : Int64 => x) (fun x => []) (by decide) (Nat.le_of_ble_eq_true rfl) ?_
  intro p e s m args below meth c A ls Q hret hname hF hP hD hA hV hR0 hn hPL hnl hl h hS
  have hx := hF.1
  have hb := hF.2.1
  have hml := hF.2.2.1
  have hown : s.vm.findClass RX5 = some m.cls := hF.2.2.2.1
  have htc := hF.2.2.2.2
  have hP : va_P D vwCl [] s.heap := hP
  have hD : va_D A [] := hD
  have hR0 : va_P D vwCl [(a_this, .inr (4, [.int f_this_number, .int f_this_width, .long f_this_size, .int f_this_order])), (a_p1, .inl (cI, 60, .inl c_p1))] s.heap := hR0
  have hR := hR0
  have hl : lv_has ls 7 [(0, .ref a_this), (1, .ref a_p1)] := hl
  unfold fX5_lexicographicPlace at h
  refine lv_lconst (v := 0) hx hb dX5_lexicographicPlace_0 (by decide) ?_
  refine lv_lstore_n (lv' := [(2, .long (0 : Int64)), (0, .ref a_this), (1, .ref a_p1)]) hx hb dX5_lexicographicPlace_1 rfl hl (by decide) rfl (fun ls hl => ?_)
  refine lv_iconst (v := 0) hx hb dX5_lexicographicPlace_2 (by decide) ?_
  refine lv_istore (lv' := [(4, .int (0 : Int32)), (2, .long (0 : Int64)), (0, .ref a_this), (1, .ref a_p1)]) hx hb dX5_lexicographicPlace_3 hl (by decide) rfl (fun ls hl => ?_)
  have L5 : ∀ (n5 : Nat) (b5_l2 : Int64) (b5_l4 : Int32), rk_it2 (fX5_lexicographicPlace_L5 f_this_width c_p1) n5 b5_l2 b5_l4 = some r0 → ∀ (H : Heap) (locs : List Loc), va_P D vwCl [] H → va_D A [] → va_S A s.heap H locs → ∀ (ls : Array Slot), lv_has ls 7 [(0, .ref a_this), (1, .ref a_p1), (2, .long b5_l2), (4, .int b5_l4)] → W p l e rmX5_lexicographicPlace s m args below meth c H locs 0 0 Q (F0 m 5 ls []) := by
    intro n5
    induction n5 with
    | zero => intro b5_l2 b5_l4 h; exact rk_no h
    | succ n5 ih5 =>
      intro b5_l2 b5_l4 h H locs hP hD hS ls hl
      have h : fX5_lexicographicPlace_L5 f_this_width c_p1 (rk_it2 (fX5_lexicographicPlace_L5 f_this_width c_p1) n5) b5_l2 b5_l4 = some r0 := h
      unfold fX5_lexicographicPlace_L5 at h
      have hR := rk_keep hR0 hn hS
      refine lv_iload hx hb dX5_lexicographicPlace_5 (lv_at hl 3 rfl) ?_
      refine lv_aload_n hx hb dX5_lexicographicPlace_7 rfl (lv_at hl 0 rfl) ?_
      refine va_get (D := D) (ci := 4) (v := .int f_this_width) (C := RX5) (T := TX5) (N := 4) hx hb htc inX5 hown hV.1 hR 0 rfl rfl 1 (by decide) (htc _ w_1_129) (fun _ h9 => u_same (htc _ w_1_130) _ h9) rfl dX5_lexicographicPlace_8 ?_
      refine lv_icmp_ge (tgt := 77) hx hb dX5_lexicographicPlace_11 (by decide) (fun hc1 => ?_) (fun hc1 => ?_)
      · have h := rk_if hc1 h
        refine lv_lload_n hx hb dX5_lexicographicPlace_77 rfl (lv_at hl 2 rfl) ?_
        exact hret b5_l2 _ _ _ _ h dX5_lexicographicPlace_78 hP hD hS
      · have h := rk_nif hc1 h
        refine lv_iconst (v := 0) hx hb dX5_lexicographicPlace_14 (by decide) ?_
        refine lv_istore (lv' := [(5, .int (0 : Int32)), (0, .ref a_this), (1, .ref a_p1), (2, .long b5_l2), (4, .int b5_l4)]) hx hb dX5_lexicographicPlace_15 hl (by decide) rfl (fun ls hl => ?_)
        refine lv_iload hx hb dX5_lexicographicPlace_17 (lv_at hl 4 rfl) ?_
        refine lv_iconst (v := 1) hx hb dX5_lexicographicPlace_19 (by decide) ?_
        refine lv_iadd hx hb dX5_lexicographicPlace_20 ?_
        refine lv_istore (lv' := [(6, .int (b5_l4 + (1 : Int32))), (5, .int (0 : Int32)), (0, .ref a_this), (1, .ref a_p1), (2, .long b5_l2), (4, .int b5_l4)]) hx hb dX5_lexicographicPlace_21 hl (by decide) rfl (fun ls hl => ?_)
        have L23 : ∀ (n23 : Nat) (b23_l5 : Int32) (b23_l6 : Int32), rk_it2 (fX5_lexicographicPlace_L23 f_this_width c_p1 b5_l2 b5_l4 (rk_it2 (fX5_lexicographicPlace_L5 f_this_width c_p1) n5)) n23 b23_l5 b23_l6 = some r0 → ∀ (H : Heap) (locs : List Loc), va_P D vwCl [] H → va_D A [] → va_S A s.heap H locs → ∀ (ls : Array Slot), lv_has ls 7 [(0, .ref a_this), (1, .ref a_p1), (2, .long b5_l2), (4, .int b5_l4), (5, .int b23_l5), (6, .int b23_l6)] → W p l e rmX5_lexicographicPlace s m args below meth c H locs 0 0 Q (F0 m 23 ls []) := by
          intro n23
          induction n23 with
          | zero => intro b23_l5 b23_l6 h; exact rk_no h
          | succ n23 ih23 =>
            intro b23_l5 b23_l6 h H locs hP hD hS ls hl
            have h : fX5_lexicographicPlace_L23 f_this_width c_p1 b5_l2 b5_l4 (rk_it2 (fX5_lexicographicPlace_L5 f_this_width c_p1) n5) (rk_it2 (fX5_lexicographicPlace_L23 f_this_width c_p1 b5_l2 b5_l4 (rk_it2 (fX5_lexicographicPlace_L5 f_this_width c_p1) n5)) n23) b23_l5 b23_l6 = some r0 := h
            unfold fX5_lexicographicPlace_L23 at h
            have hR := rk_keep hR0 hn hS
            refine lv_iload hx hb dX5_lexicographicPlace_23 (lv_at hl 5 rfl) ?_
            refine lv_aload_n hx hb dX5_lexicographicPlace_25 rfl (lv_at hl 0 rfl) ?_
            refine va_get (D := D) (ci := 4) (v := .int f_this_width) (C := RX5) (T := TX5) (N := 4) hx hb htc inX5 hown hV.1 hR 0 rfl rfl 1 (by decide) (htc _ w_1_129) (fun _ h9 => u_same (htc _ w_1_130) _ h9) rfl dX5_lexicographicPlace_26 ?_
            refine lv_icmp_ge (tgt := 56) hx hb dX5_lexicographicPlace_29 (by decide) (fun hc2 => ?_) (fun hc2 => ?_)
            · have h := rk_if hc2 h
              refine lv_lload_n hx hb dX5_lexicographicPlace_56 rfl (lv_at hl 2 rfl) ?_
              refine lv_aload_n hx hb dX5_lexicographicPlace_57 rfl (lv_at hl 0 rfl) ?_
              refine va_get (D := D) (ci := 4) (v := .int f_this_width) (C := RX5) (T := TX5) (N := 4) hx hb htc inX5 hown hV.1 hR 0 rfl rfl 1 (by decide) (htc _ w_1_129) (fun _ h9 => u_same (htc _ w_1_130) _ h9) rfl dX5_lexicographicPlace_58 ?_
              refine lv_iload hx hb dX5_lexicographicPlace_61 (lv_at hl 3 rfl) ?_
              refine lv_isub hx hb dX5_lexicographicPlace_63 ?_
              refine lv_i2l hx hb dX5_lexicographicPlace_64 rfl ?_
              refine lv_lmul hx hb dX5_lexicographicPlace_65 ?_
              refine lv_iload hx hb dX5_lexicographicPlace_66 (lv_at hl 4 rfl) ?_
              refine lv_i2l hx hb dX5_lexicographicPlace_68 rfl ?_
              refine lv_ladd hx hb dX5_lexicographicPlace_69 ?_
              refine lv_lstore_n (lv' := [(2, .long ((b5_l2 * (f_this_width - b5_l4).toInt64) + b23_l5.toInt64)), (0, .ref a_this), (1, .ref a_p1), (4, .int b5_l4), (5, .int b23_l5), (6, .int b23_l6)]) hx hb dX5_lexicographicPlace_70 rfl hl (by decide) rfl (fun ls hl => ?_)
              refine lv_iinc (v := (b5_l4 + 1)) (lv' := [(4, .int (b5_l4 + 1)), (2, .long ((b5_l2 * (f_this_width - b5_l4).toInt64) + b23_l5.toInt64)), (0, .ref a_this), (1, .ref a_p1), (5, .int b23_l5), (6, .int b23_l6)]) hx hb dX5_lexicographicPlace_71 hl (k := 3) rfl rfl (by decide) rfl (fun ls hl => ?_)
              refine lv_goto (tgt := 5) hx hb dX5_lexicographicPlace_74 (by decide) ?_
              exact ih5 ((b5_l2 * (f_this_width - b5_l4).toInt64) + b23_l5.toInt64) (b5_l4 + 1) h _ _ hP hD hS _ (lv_sub hl [2, 3, 1, 0] rfl)
            · have h := rk_nif hc2 h
              refine lv_aload_n hx hb dX5_lexicographicPlace_32 rfl (lv_at hl 1 rfl) ?_
              refine lv_iload hx hb dX5_lexicographicPlace_33 (lv_at hl 5 rfl) ?_
              obtain ⟨r_35, hc_35, h⟩ := rk_bd h
              refine rk_i (wr := []) (va_runSN (As := [.ref a_p1, .int b23_l6]) (rest := []) hF (mtX9_at l D cI cJ cO PL _ a_p1 60 c_p1 b23_l6 r_35 hc_35) ⟨va_cnB 2 htc (rk_gw w_1_52) rfl rfl rfl (hV.2.1 _ nw_1_239) (htc _ w_1_1) (by decide +kernel) ⟨(Nat.le_of_ble_eq_true rfl), (Nat.le_of_ble_eq_true rfl)⟩, htc _ w_1_51, trivial⟩ (rk_preS hP hD hS hR hn hPL hnl hV [] [(false, 1)] rfl (by decide) rfl (by decide)) rfl rfl hl.1 rfl (lv_room (Nat.le_of_ble_eq_true rfl)) dX5_lexicographicPlace_35 ⟨(Nat.le_of_ble_eq_true rfl), (Nat.le_of_ble_eq_true rfl)⟩) hP hD hS hA hR0 hn [] [] rfl rfl (by decide) (by decide) (fun H locs hP hD hS hR => ?_)
              have hP : va_P D vwCl [] H := hP
              have hD : va_D A [] := hD
              refine lv_aload_n hx hb dX5_lexicographicPlace_38 rfl (lv_at hl 1 rfl) ?_
              refine lv_iload hx hb dX5_lexicographicPlace_39 (lv_at hl 3 rfl) ?_
              obtain ⟨r_41, hc_41, h⟩ := rk_bd h
              refine rk_i (wr := []) (va_runSN (As := [.ref a_p1, .int b5_l4]) (rest := [.int r_35]) hF (mtX9_at l D cI cJ cO PL _ a_p1 60 c_p1 b5_l4 r_41 hc_41) ⟨va_cnB 2 htc (rk_gw w_1_52) rfl rfl rfl (hV.2.1 _ nw_1_239) (htc _ w_1_1) (by decide +kernel) ⟨(Nat.le_of_ble_eq_true rfl), (Nat.le_of_ble_eq_true rfl)⟩, htc _ w_1_51, trivial⟩ (rk_preS hP hD hS hR hn hPL hnl hV [] [(false, 1)] rfl (by decide) rfl (by decide)) rfl rfl hl.1 rfl (lv_room (Nat.le_of_ble_eq_true rfl)) dX5_lexicographicPlace_41 ⟨(Nat.le_of_ble_eq_true rfl), (Nat.le_of_ble_eq_true rfl)⟩) hP hD hS hA hR0 hn [] [] rfl rfl (by decide) (by decide) (fun H locs hP hD hS hR => ?_)
              have hP : va_P D vwCl [] H := hP
              have hD : va_D A [] := hD
              have B50 : ∀ (b50_l5 : Int32), fX5_lexicographicPlace_B50 b23_l6 (rk_it2 (fX5_lexicographicPlace_L23 f_this_width c_p1 b5_l2 b5_l4 (rk_it2 (fX5_lexicographicPlace_L5 f_this_width c_p1) n5)) n23) b50_l5 = some r0 → ∀ (H : Heap) (locs : List Loc), va_P D vwCl [] H → va_D A [] → va_S A s.heap H locs → ∀ (ls : Array Slot), lv_has ls 7 [(0, .ref a_this), (1, .ref a_p1), (2, .long b5_l2), (4, .int b5_l4), (5, .int b50_l5), (6, .int b23_l6)] → W p l e rmX5_lexicographicPlace s m args below meth c H locs 0 0 Q (F0 m 50 ls []) := by
                intro b50_l5 h H locs hP hD hS ls hl
                unfold fX5_lexicographicPlace_B50 at h
                have hR := rk_keep hR0 hn hS
                refine lv_iinc (v := (b23_l6 + 1)) (lv' := [(6, .int (b23_l6 + 1)), (0, .ref a_this), (1, .ref a_p1), (2, .long b5_l2), (4, .int b5_l4), (5, .int b50_l5)]) hx hb dX5_lexicographicPlace_50 hl (k := 5) rfl rfl (by decide) rfl (fun ls hl => ?_)
                refine lv_goto (tgt := 23) hx hb dX5_lexicographicPlace_53 (by decide) ?_
                exact ih23 b50_l5 (b23_l6 + 1) h _ _ hP hD hS _ (lv_sub hl [1, 2, 3, 4, 5, 0] rfl)
              refine lv_icmp_ge (tgt := 50) hx hb dX5_lexicographicPlace_44 (by decide) (fun hc3 => ?_) (fun hc3 => ?_)
              · have h := rk_if hc3 h
                exact B50 b23_l5 h _ _ hP hD hS _ hl
              · have h := rk_nif hc3 h
                refine lv_iinc (v := (b23_l5 + 1)) (lv' := [(5, .int (b23_l5 + 1)), (0, .ref a_this), (1, .ref a_p1), (2, .long b5_l2), (4, .int b5_l4), (6, .int b23_l6)]) hx hb dX5_lexicographicPlace_47 hl (k := 4) rfl rfl (by decide) rfl (fun ls hl => ?_)
                exact B50 (b23_l5 + 1) h _ _ hP hD hS _ (lv_sub hl [1, 2, 3, 4, 0, 5] rfl)
        exact L23 FU (0 : Int32) (b5_l4 + (1 : Int32)) h _ _ hP hD hS _ (lv_sub hl [2, 3, 4, 5, 1, 0] rfl)
  exact L5 FU (0 : Int64) (0 : Int32) h _ _ hP hD hS _ (lv_sub hl [2, 3, 1, 0] rfl)
set_option maxHeartbeats 4000000 in
set_option maxRecDepth 100000 in
theorem mtX5_lessBefore (l : Launch) (D : va_G) (cI cJ cO : ClassId) (PL : va_W) (sz : Nat) (a_this : Nat) (f_this_number : Int32) (f_this_width : Int32) (f_this_size : Int64) (f_this_order : Int32) (a_p1 : Nat) (c_p1 : Nat → Int32) (v_p2 : Int32) (r0 : Int32) (h : fX5_lessBefore f_this_width c_p1 v_p2 = some r0) : Met l yX5_lessBefore (rk_w yX5_lessBefore cX5_lessBefore 5 (some .int)) rmX5_lessBefore (va_Pc [.ref a_this, .ref a_p1, .int v_p2] (rk_B D (rk_TY cI cJ cO) [] [(a_this, .inr (4, [.int f_this_number, .int f_this_width, .long f_this_size, .int f_this_order])), (a_p1, .inl (cI, 60, .inl c_p1))] PL sz)) (rk_Qi r0 D [] [] sz) 0 0 (va_A [] sz) := by
  refine rk_meti h (fun x : Int32 => x) (fun x => []) (by decide) (Nat.le_of_ble_eq_true rfl) ?_
  intro p e s m args below meth c A ls Q hret hname hF hP hD hA hV hR0 hn hPL hnl hl h hS
  have hx := hF.1
  have hb := hF.2.1
  have hml := hF.2.2.1
  have hown : s.vm.findClass RX5 = some m.cls := hF.2.2.2.1
  have htc := hF.2.2.2.2
  have hP : va_P D vwCl [] s.heap := hP
  have hD : va_D A [] := hD
  have hR0 : va_P D vwCl [(a_this, .inr (4, [.int f_this_number, .int f_this_width, .long f_this_size, .int f_this_order])), (a_p1, .inl (cI, 60, .inl c_p1))] s.heap := hR0
  have hR := hR0
  have hl : lv_has ls 5 [(0, .ref a_this), (1, .ref a_p1), (2, .int v_p2)] := hl
  unfold fX5_lessBefore at h
  refine lv_iconst (v := 0) hx hb dX5_lessBefore_0 (by decide) ?_
  refine lv_istore_n (lv' := [(3, .int (0 : Int32)), (0, .ref a_this), (1, .ref a_p1), (2, .int v_p2)]) hx hb dX5_lessBefore_1 rfl hl (by decide) rfl (fun ls hl => ?_)
  refine lv_iconst (v := 0) hx hb dX5_lessBefore_2 (by decide) ?_
  refine lv_istore (lv' := [(4, .int (0 : Int32)), (3, .int (0 : Int32)), (0, .ref a_this), (1, .ref a_p1), (2, .int v_p2)]) hx hb dX5_lessBefore_3 hl (by decide) rfl (fun ls hl => ?_)
  have L5 : ∀ (n5 : Nat) (b5_l3 : Int32) (b5_l4 : Int32), rk_it2 (fX5_lessBefore_L5 f_this_width c_p1 v_p2) n5 b5_l3 b5_l4 = some r0 → ∀ (H : Heap) (locs : List Loc), va_P D vwCl [] H → va_D A [] → va_S A s.heap H locs → ∀ (ls : Array Slot), lv_has ls 5 [(0, .ref a_this), (1, .ref a_p1), (2, .int v_p2), (3, .int b5_l3), (4, .int b5_l4)] → W p l e rmX5_lessBefore s m args below meth c H locs 0 0 Q (F0 m 5 ls []) := by
    intro n5
    induction n5 with
    | zero => intro b5_l3 b5_l4 h; exact rk_no h
    | succ n5 ih5 =>
      intro b5_l3 b5_l4 h H locs hP hD hS ls hl
      have h : fX5_lessBefore_L5 f_this_width c_p1 v_p2 (rk_it2 (fX5_lessBefore_L5 f_this_width c_p1 v_p2) n5) b5_l3 b5_l4 = some r0 := h
      unfold fX5_lessBefore_L5 at h
      have hR := rk_keep hR0 hn hS
      refine lv_iload hx hb dX5_lessBefore_5 (lv_at hl 4 rfl) ?_
      refine lv_aload_n hx hb dX5_lessBefore_7 rfl (lv_at hl 0 rfl) ?_
      refine va_get (D := D) (ci := 4) (v := .int f_this_width) (C := RX5) (T := TX5) (N := 4) hx hb htc inX5 hown hV.1 hR 0 rfl rfl 1 (by decide) (htc _ w_1_129) (fun _ h9 => u_same (htc _ w_1_130) _ h9) rfl dX5_lessBefore_8 ?_
      refine lv_icmp_ge (tgt := 43) hx hb dX5_lessBefore_11 (by decide) (fun hc1 => ?_) (fun hc1 => ?_)
      · have h := rk_if hc1 h
        refine lv_iload_n hx hb dX5_lessBefore_43 rfl (lv_at hl 3 rfl) ?_
        exact hret b5_l3 _ _ _ _ h dX5_lessBefore_44 hP hD hS
      · have h := rk_nif hc1 h
        refine lv_aload_n hx hb dX5_lessBefore_14 rfl (lv_at hl 1 rfl) ?_
        refine lv_iload hx hb dX5_lessBefore_15 (lv_at hl 4 rfl) ?_
        obtain ⟨r_17, hc_17, h⟩ := rk_bd h
        refine rk_i (wr := []) (va_runSN (As := [.ref a_p1, .int b5_l4]) (rest := []) hF (mtX9_at l D cI cJ cO PL _ a_p1 60 c_p1 b5_l4 r_17 hc_17) ⟨va_cnB 2 htc (rk_gw w_1_52) rfl rfl rfl (hV.2.1 _ nw_1_239) (htc _ w_1_1) (by decide +kernel) ⟨(Nat.le_of_ble_eq_true rfl), (Nat.le_of_ble_eq_true rfl)⟩, htc _ w_1_51, trivial⟩ (rk_preS hP hD hS hR hn hPL hnl hV [] [(false, 1)] rfl (by decide) rfl (by decide)) rfl rfl hl.1 rfl (lv_room (Nat.le_of_ble_eq_true rfl)) dX5_lessBefore_17 ⟨(Nat.le_of_ble_eq_true rfl), (Nat.le_of_ble_eq_true rfl)⟩) hP hD hS hA hR0 hn [] [] rfl rfl (by decide) (by decide) (fun H locs hP hD hS hR => ?_)
        have hP : va_P D vwCl [] H := hP
        have hD : va_D A [] := hD
        refine lv_iload_n hx hb dX5_lessBefore_20 rfl (lv_at hl 2 rfl) ?_
        refine lv_icmp_eq (tgt := 43) hx hb dX5_lessBefore_21 (by decide) (fun hc2 => ?_) (fun hc2 => ?_)
        · have h := rk_if hc2 h
          refine lv_iload_n hx hb dX5_lessBefore_43 rfl (lv_at hl 3 rfl) ?_
          exact hret b5_l3 _ _ _ _ h dX5_lessBefore_44 hP hD hS
        · have h := rk_nif hc2 h
          refine lv_aload_n hx hb dX5_lessBefore_24 rfl (lv_at hl 1 rfl) ?_
          refine lv_iload hx hb dX5_lessBefore_25 (lv_at hl 4 rfl) ?_
          obtain ⟨r_27, hc_27, h⟩ := rk_bd h
          refine rk_i (wr := []) (va_runSN (As := [.ref a_p1, .int b5_l4]) (rest := []) hF (mtX9_at l D cI cJ cO PL _ a_p1 60 c_p1 b5_l4 r_27 hc_27) ⟨va_cnB 2 htc (rk_gw w_1_52) rfl rfl rfl (hV.2.1 _ nw_1_239) (htc _ w_1_1) (by decide +kernel) ⟨(Nat.le_of_ble_eq_true rfl), (Nat.le_of_ble_eq_true rfl)⟩, htc _ w_1_51, trivial⟩ (rk_preS hP hD hS hR hn hPL hnl hV [] [(false, 1)] rfl (by decide) rfl (by decide)) rfl rfl hl.1 rfl (lv_room (Nat.le_of_ble_eq_true rfl)) dX5_lessBefore_27 ⟨(Nat.le_of_ble_eq_true rfl), (Nat.le_of_ble_eq_true rfl)⟩) hP hD hS hA hR0 hn [] [] rfl rfl (by decide) (by decide) (fun H locs hP hD hS hR => ?_)
          have hP : va_P D vwCl [] H := hP
          have hD : va_D A [] := hD
          refine lv_iload_n hx hb dX5_lessBefore_30 rfl (lv_at hl 2 rfl) ?_
          have B37 : ∀ (b37_l3 : Int32), fX5_lessBefore_B37 b5_l4 (rk_it2 (fX5_lessBefore_L5 f_this_width c_p1 v_p2) n5) b37_l3 = some r0 → ∀ (H : Heap) (locs : List Loc), va_P D vwCl [] H → va_D A [] → va_S A s.heap H locs → ∀ (ls : Array Slot), lv_has ls 5 [(0, .ref a_this), (1, .ref a_p1), (2, .int v_p2), (3, .int b37_l3), (4, .int b5_l4)] → W p l e rmX5_lessBefore s m args below meth c H locs 0 0 Q (F0 m 37 ls []) := by
            intro b37_l3 h H locs hP hD hS ls hl
            unfold fX5_lessBefore_B37 at h
            have hR := rk_keep hR0 hn hS
            refine lv_iinc (v := (b5_l4 + 1)) (lv' := [(4, .int (b5_l4 + 1)), (0, .ref a_this), (1, .ref a_p1), (2, .int v_p2), (3, .int b37_l3)]) hx hb dX5_lessBefore_37 hl (k := 4) rfl rfl (by decide) rfl (fun ls hl => ?_)
            refine lv_goto (tgt := 5) hx hb dX5_lessBefore_40 (by decide) ?_
            exact ih5 b37_l3 (b5_l4 + 1) h _ _ hP hD hS _ (lv_sub hl [1, 2, 3, 4, 0] rfl)
          refine lv_icmp_ge (tgt := 37) hx hb dX5_lessBefore_31 (by decide) (fun hc3 => ?_) (fun hc3 => ?_)
          · have h := rk_if hc3 h
            exact B37 b5_l3 h _ _ hP hD hS _ hl
          · have h := rk_nif hc3 h
            refine lv_iinc (v := (b5_l3 + 1)) (lv' := [(3, .int (b5_l3 + 1)), (0, .ref a_this), (1, .ref a_p1), (2, .int v_p2), (4, .int b5_l4)]) hx hb dX5_lessBefore_34 hl (k := 3) rfl rfl (by decide) rfl (fun ls hl => ?_)
            exact B37 (b5_l3 + 1) h _ _ hP hD hS _ (lv_sub hl [1, 2, 3, 0, 4] rfl)
  exact L5 FU (0 : Int32) (0 : Int32) h _ _ hP hD hS _ (lv_sub hl [2, 3, 4, 1, 0] rfl)
set_option maxHeartbeats 4000000 in
set_option maxRecDepth 100000 in
theorem mtX5_plainTurn (l : Launch) (D : va_G) (cI cJ cO : ClassId) (PL : va_W) (sz : Nat) (v_p0 : Int64) (v_p2 : Int32) (v_p3 : Int32) (r0 : Int32) (h : fX5_plainTurn v_p0 v_p2 v_p3 = some r0) : Met l yX5_plainTurn (rk_w yX5_plainTurn cX5_plainTurn 4 (some .int)) rmX5_plainTurn (va_Pc [.long v_p0, .int v_p2, .int v_p3] (rk_B D (rk_TY cI cJ cO) [] [] PL sz)) (rk_Qi r0 D [] [] sz) 0 0 (va_A [] sz) := by
  refine rk_meti h (fun x : Int32 => x) (fun x => []) (by decide) (Nat.le_of_ble_eq_true rfl) ?_
  intro p e s m args below meth c A ls Q hret hname hF hP hD hA hV hR0 hn hPL hnl hl h hS
  have hx := hF.1
  have hb := hF.2.1
  have hml := hF.2.2.1
  have hown : s.vm.findClass RX5 = some m.cls := hF.2.2.2.1
  have htc := hF.2.2.2.2
  have hP : va_P D vwCl [] s.heap := hP
  have hD : va_D A [] := hD
  have hR0 : va_P D vwCl [] s.heap := hR0
  have hR := hR0
  have hl : lv_has ls 4 [(0, .long v_p0), (2, .int v_p2), (3, .int v_p3)] := hl
  unfold fX5_plainTurn at h
  refine lv_lload_n hx hb dX5_plainTurn_0 rfl (lv_at hl 0 rfl) ?_
  refine lv_lconst (v := 1) hx hb dX5_plainTurn_1 (by decide) ?_
  refine lv_land hx hb dX5_plainTurn_2 ?_
  refine lv_lconst (v := 0) hx hb dX5_plainTurn_3 (by decide) ?_
  refine rk_lcne (tgt := 14) hx hb dX5_plainTurn_4 dX5_plainTurn_5 (by decide) (fun hc1 => ?_) (fun hc1 => ?_)
  · have h := rk_if hc1 h
    refine lv_iload_n hx hb dX5_plainTurn_14 rfl (lv_at hl 2 rfl) ?_
    exact hret v_p3 _ _ _ _ h dX5_plainTurn_15 hP hD hS
  · have h := rk_nnif hc1 h
    refine lv_iload_n hx hb dX5_plainTurn_8 rfl (lv_at hl 1 rfl) ?_
    refine lv_iload_n hx hb dX5_plainTurn_9 rfl (lv_at hl 2 rfl) ?_
    refine lv_isub hx hb dX5_plainTurn_10 ?_
    refine lv_goto (tgt := 15) hx hb dX5_plainTurn_11 (by decide) ?_
    exact hret (v_p2 - v_p3) _ _ _ _ h dX5_plainTurn_15 hP hD hS
set_option maxHeartbeats 4000000 in
set_option maxRecDepth 100000 in
theorem mtX5_plainPlace (l : Launch) (D : va_G) (cI cJ cO : ClassId) (PL : va_W) (sz : Nat) (a_this : Nat) (f_this_number : Int32) (f_this_width : Int32) (f_this_size : Int64) (f_this_order : Int32) (a_p1 : Nat) (c_p1 : Nat → Int32) (r0 : Int64) (h : fX5_plainPlace f_this_width c_p1 = some r0) : Met l yX5_plainPlace (rk_w yX5_plainPlace cX5_plainPlace 6 (some .long)) rmX5_plainPlace (va_Pc [.ref a_this, .ref a_p1] (rk_B D (rk_TY cI cJ cO) [] [(a_this, .inr (4, [.int f_this_number, .int f_this_width, .long f_this_size, .int f_this_order])), (a_p1, .inl (cI, 60, .inl c_p1))] PL sz)) (rk_Ql r0 D [] [] sz) 0 0 (va_A [] sz) := by
  refine rk_metl h (fun x : Int64 => x) (fun x => []) (by decide) (Nat.le_of_ble_eq_true rfl) ?_
  intro p e s m args below meth c A ls Q hret hname hF hP hD hA hV hR0 hn hPL hnl hl h hS
  have hx := hF.1
  have hb := hF.2.1
  have hml := hF.2.2.1
  have hown : s.vm.findClass RX5 = some m.cls := hF.2.2.2.1
  have htc := hF.2.2.2.2
  have hP : va_P D vwCl [] s.heap := hP
  have hD : va_D A [] := hD
  have hR0 : va_P D vwCl [(a_this, .inr (4, [.int f_this_number, .int f_this_width, .long f_this_size, .int f_this_order])), (a_p1, .inl (cI, 60, .inl c_p1))] s.heap := hR0
  have hR := hR0
  have hl : lv_has ls 6 [(0, .ref a_this), (1, .ref a_p1)] := hl
  unfold fX5_plainPlace at h
  refine lv_lconst (v := 0) hx hb dX5_plainPlace_0 (by decide) ?_
  refine lv_lstore_n (lv' := [(2, .long (0 : Int64)), (0, .ref a_this), (1, .ref a_p1)]) hx hb dX5_plainPlace_1 rfl hl (by decide) rfl (fun ls hl => ?_)
  refine lv_iconst (v := 1) hx hb dX5_plainPlace_2 (by decide) ?_
  refine lv_istore (lv' := [(4, .int (1 : Int32)), (2, .long (0 : Int64)), (0, .ref a_this), (1, .ref a_p1)]) hx hb dX5_plainPlace_3 hl (by decide) rfl (fun ls hl => ?_)
  have L5 : ∀ (n5 : Nat) (b5_l2 : Int64) (b5_l4 : Int32), rk_it2 (fX5_plainPlace_L5 f_this_width c_p1) n5 b5_l2 b5_l4 = some r0 → ∀ (H : Heap) (locs : List Loc), va_P D vwCl [] H → va_D A [] → va_S A s.heap H locs → ∀ (ls : Array Slot), lv_has ls 6 [(0, .ref a_this), (1, .ref a_p1), (2, .long b5_l2), (4, .int b5_l4)] → W p l e rmX5_plainPlace s m args below meth c H locs 0 0 Q (F0 m 5 ls []) := by
    intro n5
    induction n5 with
    | zero => intro b5_l2 b5_l4 h; exact rk_no h
    | succ n5 ih5 =>
      intro b5_l2 b5_l4 h H locs hP hD hS ls hl
      have h : fX5_plainPlace_L5 f_this_width c_p1 (rk_it2 (fX5_plainPlace_L5 f_this_width c_p1) n5) b5_l2 b5_l4 = some r0 := h
      unfold fX5_plainPlace_L5 at h
      have hR := rk_keep hR0 hn hS
      refine lv_iload hx hb dX5_plainPlace_5 (lv_at hl 3 rfl) ?_
      refine lv_aload_n hx hb dX5_plainPlace_7 rfl (lv_at hl 0 rfl) ?_
      refine va_get (D := D) (ci := 4) (v := .int f_this_width) (C := RX5) (T := TX5) (N := 4) hx hb htc inX5 hown hV.1 hR 0 rfl rfl 1 (by decide) (htc _ w_1_129) (fun _ h9 => u_same (htc _ w_1_130) _ h9) rfl dX5_plainPlace_8 ?_
      refine lv_icmp_ge (tgt := 47) hx hb dX5_plainPlace_11 (by decide) (fun hc1 => ?_) (fun hc1 => ?_)
      · have h := rk_if hc1 h
        refine lv_lload_n hx hb dX5_plainPlace_47 rfl (lv_at hl 2 rfl) ?_
        exact hret b5_l2 _ _ _ _ h dX5_plainPlace_48 hP hD hS
      · have h := rk_nif hc1 h
        refine lv_lload_n hx hb dX5_plainPlace_14 rfl (lv_at hl 2 rfl) ?_
        refine lv_iload hx hb dX5_plainPlace_15 (lv_at hl 3 rfl) ?_
        refine lv_aload_n hx hb dX5_plainPlace_17 rfl (lv_at hl 0 rfl) ?_
        refine lv_aload_n hx hb dX5_plainPlace_18 rfl (lv_at hl 1 rfl) ?_
        refine lv_iload hx hb dX5_plainPlace_19 (lv_at hl 3 rfl) ?_
        obtain ⟨r_21, hc_21, h⟩ := rk_bd h
        refine rk_i (wr := []) (va_runV (C := RX5) (As := [.ref a_p1, .int b5_l4]) (rest := [.int b5_l4, .long b5_l2]) hF (mtX5_lessBefore l D cI cJ cO PL _ a_this f_this_number f_this_width f_this_size f_this_order a_p1 c_p1 b5_l4 r_21 hc_21) (cwV 2 htc (rk_gV w_3_30 w_3_32 ws_17 w_1_9 w_3_33) rfl rfl rfl (by decide +kernel) ⟨(Nat.le_of_ble_eq_true rfl), (Nat.le_of_ble_eq_true rfl)⟩) (rk_preV (va_recv hV.1 hR (ci := 4) (q0 := 0) rfl rfl) (rk_preS hP hD hS hR hn hPL hnl hV [] [(false, 0), (false, 1)] rfl (by decide) rfl (by decide))) rfl rfl hl.1 rfl (lv_room (Nat.le_of_ble_eq_true rfl)) dX5_plainPlace_21 ⟨(Nat.le_of_ble_eq_true rfl), (Nat.le_of_ble_eq_true rfl)⟩) hP hD hS hA hR0 hn [] [] rfl rfl (by decide) (by decide) (fun H locs hP hD hS hR => ?_)
        have hP : va_P D vwCl [] H := hP
        have hD : va_D A [] := hD
        obtain ⟨r_24, hc_24, h⟩ := rk_bd h
        refine rk_i (wr := []) (va_runS (As := [.long b5_l2, .int b5_l4, .int r_21]) (rest := []) hF (mtX5_plainTurn l D cI cJ cO PL _ b5_l2 b5_l4 r_21 r_24 hc_24) (va_cwS 3 htc (rk_gVS w_1_232 w_1_233 w_1_9 w_1_234) rfl rfl rfl (by decide +kernel) ⟨(Nat.le_of_ble_eq_true rfl), (Nat.le_of_ble_eq_true rfl)⟩) (rk_preS hP hD hS hR hn hPL hnl hV [] [] rfl (by decide) rfl (by decide)) rfl rfl hl.1 rfl (lv_room (Nat.le_of_ble_eq_true rfl)) dX5_plainPlace_24 ⟨(Nat.le_of_ble_eq_true rfl), (Nat.le_of_ble_eq_true rfl)⟩) hP hD hS hA hR0 hn [] [] rfl rfl (by decide) (by decide) (fun H locs hP hD hS hR => ?_)
        have hP : va_P D vwCl [] H := hP
        have hD : va_D A [] := hD
        refine lv_istore (lv' := [(5, .int r_24), (0, .ref a_this), (1, .ref a_p1), (2, .long b5_l2), (4, .int b5_l4)]) hx hb dX5_plainPlace_27 hl (by decide) rfl (fun ls hl => ?_)
        refine lv_lload_n hx hb dX5_plainPlace_29 rfl (lv_at hl 3 rfl) ?_
        refine lv_iload hx hb dX5_plainPlace_30 (lv_at hl 4 rfl) ?_
        refine lv_iconst (v := 1) hx hb dX5_plainPlace_32 (by decide) ?_
        refine lv_iadd hx hb dX5_plainPlace_33 ?_
        refine lv_i2l hx hb dX5_plainPlace_34 rfl ?_
        refine lv_lmul hx hb dX5_plainPlace_35 ?_
        refine lv_iload hx hb dX5_plainPlace_36 (lv_at hl 0 rfl) ?_
        refine lv_i2l hx hb dX5_plainPlace_38 rfl ?_
        refine lv_ladd hx hb dX5_plainPlace_39 ?_
        refine lv_lstore_n (lv' := [(2, .long ((b5_l2 * (b5_l4 + (1 : Int32)).toInt64) + r_24.toInt64)), (5, .int r_24), (0, .ref a_this), (1, .ref a_p1), (4, .int b5_l4)]) hx hb dX5_plainPlace_40 rfl hl (by decide) rfl (fun ls hl => ?_)
        refine lv_iinc (v := (b5_l4 + 1)) (lv' := [(4, .int (b5_l4 + 1)), (2, .long ((b5_l2 * (b5_l4 + (1 : Int32)).toInt64) + r_24.toInt64)), (5, .int r_24), (0, .ref a_this), (1, .ref a_p1)]) hx hb dX5_plainPlace_41 hl (k := 4) rfl rfl (by decide) rfl (fun ls hl => ?_)
        refine lv_goto (tgt := 5) hx hb dX5_plainPlace_44 (by decide) ?_
        exact ih5 ((b5_l2 * (b5_l4 + (1 : Int32)).toInt64) + r_24.toInt64) (b5_l4 + 1) h _ _ hP hD hS _ (lv_sub hl [3, 4, 1, 0] rfl)
  exact L5 FU (0 : Int64) (1 : Int32) h _ _ hP hD hS _ (lv_sub hl [2, 3, 1, 0] rfl)
set_option maxHeartbeats 4000000 in
set_option maxRecDepth 100000 in
theorem mtX5_placeOf (l : Launch) (D : va_G) (cI cJ cO : ClassId) (PL : va_W) (sz : Nat) (a_this : Nat) (f_this_number : Int32) (f_this_width : Int32) (f_this_size : Int64) (f_this_order : Int32) (a_p1 : Nat) (c_p1 : Nat → Int32) (a_p2 : Nat) (a_p2_binomials : Nat) (a_p2_partitionCounts : Nat) (a_p2_treeCounts : Nat) (a_p2_sizes : Nat) (a_p2_starts : Nat) (a_p2_ranks : Nat) (a_p2_letters : Nat) (c_p2_letters : Nat → Int32) (c_p2_ranks : Nat → Int64) (c_p2_sizes : Nat → Int32) (c_p2_binomials : Nat → Int64) (c_p2_partitionCounts : Nat → Int32) (c_p2_treeCounts : Nat → Int64) (r0 : Int64 × (Nat → Int32) × (Nat → Int64) × (Nat → Int32)) (h : fX5_placeOf f_this_width f_this_order c_p1 c_p2_letters c_p2_ranks c_p2_sizes = some r0) : Met l yX5_placeOf (rk_w yX5_placeOf cX5_placeOf 3 (some .long)) rmX5_placeOf (va_Pc [.ref a_this, .ref a_p1, .ref a_p2] (rk_B D (rk_TY cI cJ cO) [(a_p2_letters, .inl (cI, 4, .inl c_p2_letters)), (a_p2_ranks, .inl (cJ, 60, .inr (.inl c_p2_ranks))), (a_p2_sizes, .inl (cI, 60, .inl c_p2_sizes))] [(a_this, .inr (4, [.int f_this_number, .int f_this_width, .long f_this_size, .int f_this_order])), (a_p1, .inl (cI, 60, .inl c_p1)), (a_p2, .inr (2, [.ref a_p2_binomials, .ref a_p2_partitionCounts, .ref a_p2_treeCounts, .ref a_p2_sizes, .ref a_p2_starts, .ref a_p2_ranks, .ref a_p2_letters])), (a_p2_binomials, .inl (cJ, 1891, .inr (.inl c_p2_binomials))), (a_p2_partitionCounts, .inl (cI, 1891, .inl c_p2_partitionCounts)), (a_p2_treeCounts, .inl (cJ, 31, .inr (.inl c_p2_treeCounts)))] PL sz)) (rk_Ql r0.1 D [(a_p2_letters, .inl (cI, 4, .inl r0.2.1)), (a_p2_ranks, .inl (cJ, 60, .inr (.inl r0.2.2.1))), (a_p2_sizes, .inl (cI, 60, .inl r0.2.2.2))] [(a_p2_letters, .inl (cI, 4, .inl c_p2_letters)), (a_p2_ranks, .inl (cJ, 60, .inr (.inl c_p2_ranks))), (a_p2_sizes, .inl (cI, 60, .inl c_p2_sizes))] sz) 0 0 (va_A [(a_p2_letters, .inl (cI, 4, .inl c_p2_letters)), (a_p2_ranks, .inl (cJ, 60, .inr (.inl c_p2_ranks))), (a_p2_sizes, .inl (cI, 60, .inl c_p2_sizes))] sz) := by
  refine rk_metl h (fun x : Int64 × (Nat → Int32) × (Nat → Int64) × (Nat → Int32) => x.1) (fun x => [(a_p2_letters, .inl (cI, 4, .inl x.2.1)), (a_p2_ranks, .inl (cJ, 60, .inr (.inl x.2.2.1))), (a_p2_sizes, .inl (cI, 60, .inl x.2.2.2))]) (by decide) (Nat.le_of_ble_eq_true rfl) ?_
  intro p e s m args below meth c A ls Q hret hname hF hP hD hA hV hR0 hn hPL hnl hl h hS
  have hx := hF.1
  have hb := hF.2.1
  have hml := hF.2.2.1
  have hown : s.vm.findClass RX5 = some m.cls := hF.2.2.2.1
  have htc := hF.2.2.2.2
  have hP : va_P D vwCl [(a_p2_letters, .inl (cI, 4, .inl c_p2_letters)), (a_p2_ranks, .inl (cJ, 60, .inr (.inl c_p2_ranks))), (a_p2_sizes, .inl (cI, 60, .inl c_p2_sizes))] s.heap := hP
  have hD : va_D A [(a_p2_letters, .inl (cI, 4, .inl c_p2_letters)), (a_p2_ranks, .inl (cJ, 60, .inr (.inl c_p2_ranks))), (a_p2_sizes, .inl (cI, 60, .inl c_p2_sizes))] := hD
  have hR0 : va_P D vwCl [(a_this, .inr (4, [.int f_this_number, .int f_this_width, .long f_this_size, .int f_this_order])), (a_p1, .inl (cI, 60, .inl c_p1)), (a_p2, .inr (2, [.ref a_p2_binomials, .ref a_p2_partitionCounts, .ref a_p2_treeCounts, .ref a_p2_sizes, .ref a_p2_starts, .ref a_p2_ranks, .ref a_p2_letters])), (a_p2_binomials, .inl (cJ, 1891, .inr (.inl c_p2_binomials))), (a_p2_partitionCounts, .inl (cI, 1891, .inl c_p2_partitionCounts)), (a_p2_treeCounts, .inl (cJ, 31, .inr (.inl c_p2_treeCounts)))] s.heap := hR0
  have hR := hR0
  have hl : lv_has ls 3 [(0, .ref a_this), (1, .ref a_p1), (2, .ref a_p2)] := hl
  unfold fX5_placeOf at h
  refine lv_aload_n hx hb dX5_placeOf_0 rfl (lv_at hl 0 rfl) ?_
  refine va_get (D := D) (ci := 4) (v := .int f_this_order) (C := RX5) (T := TX5) (N := 4) hx hb htc inX5 hown hV.1 hR 0 rfl rfl 3 (by decide) (htc _ w_2_75) (fun _ h9 => h9) rfl dX5_placeOf_1 ?_
  refine lv_iconst (v := 1) hx hb dX5_placeOf_4 (by decide) ?_
  refine lv_icmp_ne (tgt := 16) hx hb dX5_placeOf_5 (by decide) (fun hc1 => ?_) (fun hc1 => ?_)
  · have h := rk_if hc1 h
    refine lv_aload_n hx hb dX5_placeOf_16 rfl (lv_at hl 0 rfl) ?_
    refine lv_aload_n hx hb dX5_placeOf_17 rfl (lv_at hl 1 rfl) ?_
    obtain ⟨r_18, hc_18, h⟩ := rk_bd h
    refine rk_l (wr := [(a_p2_letters, .inl (cI, 4, .inl c_p2_letters)), (a_p2_ranks, .inl (cJ, 60, .inr (.inl c_p2_ranks))), (a_p2_sizes, .inl (cI, 60, .inl c_p2_sizes))]) (va_runV (C := RX5) (As := [.ref a_p1]) (rest := []) hF (mtX5_lexicographicPlace l D cI cJ cO PL _ a_this f_this_number f_this_width f_this_size f_this_order a_p1 c_p1 r_18 hc_18) (cwV 1 htc (rk_gV w_3_34 w_3_36 ws_18 w_1_9 w_3_37) rfl rfl rfl (by decide +kernel) ⟨(Nat.le_of_ble_eq_true rfl), (Nat.le_of_ble_eq_true rfl)⟩) (rk_preV (va_recv hV.1 hR (ci := 4) (q0 := 0) rfl rfl) (rk_preS hP hD hS hR hn hPL hnl hV [] [(false, 0), (false, 1)] rfl (by decide) rfl (by decide))) rfl rfl hl.1 rfl (lv_room (Nat.le_of_ble_eq_true rfl)) dX5_placeOf_18 ⟨(Nat.le_of_ble_eq_true rfl), (Nat.le_of_ble_eq_true rfl)⟩) hP hD hS hA hR0 hn [] [0, 1, 2] rfl rfl (by decide) (by decide) (fun H locs hP hD hS hR => ?_)
    have hP : va_P D vwCl [(a_p2_letters, .inl (cI, 4, .inl c_p2_letters)), (a_p2_ranks, .inl (cJ, 60, .inr (.inl c_p2_ranks))), (a_p2_sizes, .inl (cI, 60, .inl c_p2_sizes))] H := hP
    have hD : va_D A [(a_p2_letters, .inl (cI, 4, .inl c_p2_letters)), (a_p2_ranks, .inl (cJ, 60, .inr (.inl c_p2_ranks))), (a_p2_sizes, .inl (cI, 60, .inl c_p2_sizes))] := hD
    exact hret (r_18, c_p2_letters, c_p2_ranks, c_p2_sizes) _ _ _ _ h dX5_placeOf_21 hP hD hS
  · have h := rk_nnif hc1 h
    refine lv_aload_n hx hb dX5_placeOf_8 rfl (lv_at hl 0 rfl) ?_
    refine lv_aload_n hx hb dX5_placeOf_9 rfl (lv_at hl 1 rfl) ?_
    obtain ⟨r_10, hc_10, h⟩ := rk_bd h
    refine rk_l (wr := [(a_p2_letters, .inl (cI, 4, .inl c_p2_letters)), (a_p2_ranks, .inl (cJ, 60, .inr (.inl c_p2_ranks))), (a_p2_sizes, .inl (cI, 60, .inl c_p2_sizes))]) (va_runV (C := RX5) (As := [.ref a_p1]) (rest := []) hF (mtX5_plainPlace l D cI cJ cO PL _ a_this f_this_number f_this_width f_this_size f_this_order a_p1 c_p1 r_10 hc_10) (cwV 1 htc (rk_gV w_3_26 w_3_28 ws_16 w_1_9 w_3_29) rfl rfl rfl (by decide +kernel) ⟨(Nat.le_of_ble_eq_true rfl), (Nat.le_of_ble_eq_true rfl)⟩) (rk_preV (va_recv hV.1 hR (ci := 4) (q0 := 0) rfl rfl) (rk_preS hP hD hS hR hn hPL hnl hV [] [(false, 0), (false, 1)] rfl (by decide) rfl (by decide))) rfl rfl hl.1 rfl (lv_room (Nat.le_of_ble_eq_true rfl)) dX5_placeOf_10 ⟨(Nat.le_of_ble_eq_true rfl), (Nat.le_of_ble_eq_true rfl)⟩) hP hD hS hA hR0 hn [] [0, 1, 2] rfl rfl (by decide) (by decide) (fun H locs hP hD hS hR => ?_)
    have hP : va_P D vwCl [(a_p2_letters, .inl (cI, 4, .inl c_p2_letters)), (a_p2_ranks, .inl (cJ, 60, .inr (.inl c_p2_ranks))), (a_p2_sizes, .inl (cI, 60, .inl c_p2_sizes))] H := hP
    have hD : va_D A [(a_p2_letters, .inl (cI, 4, .inl c_p2_letters)), (a_p2_ranks, .inl (cJ, 60, .inr (.inl c_p2_ranks))), (a_p2_sizes, .inl (cI, 60, .inl c_p2_sizes))] := hD
    refine lv_goto (tgt := 21) hx hb dX5_placeOf_13 (by decide) ?_
    exact hret (r_10, c_p2_letters, c_p2_ranks, c_p2_sizes) _ _ _ _ h dX5_placeOf_21 hP hD hS
set_option maxHeartbeats 4000000 in
set_option maxRecDepth 100000 in
theorem mtX5_layLexicographic (l : Launch) (D : va_G) (cI cJ cO : ClassId) (PL : va_W) (sz : Nat) (a_p3 : Nat) (c_p3 : Nat → Int32) (a_this : Nat) (f_this_number : Int32) (f_this_width : Int32) (f_this_size : Int64) (f_this_order : Int32) (v_p1 : Int64) (r0 : (Nat → Int32)) (h : fX5_layLexicographic c_p3 f_this_width v_p1 = some r0) : Met l yX5_layLexicographic (rk_w yX5_layLexicographic cX5_layLexicographic 9 none) rmX5_layLexicographic (va_Pc [.ref a_this, .long v_p1, .ref a_p3] (rk_B D (rk_TY cI cJ cO) [(a_p3, .inl (cI, 60, .inl c_p3))] [(a_this, .inr (4, [.int f_this_number, .int f_this_width, .long f_this_size, .int f_this_order]))] PL sz)) (rk_Qv D [(a_p3, .inl (cI, 60, .inl r0))] [(a_p3, .inl (cI, 60, .inl c_p3))] sz) 0 0 (va_A [(a_p3, .inl (cI, 60, .inl c_p3))] sz) := by
  refine rk_metv h (fun x => [(a_p3, .inl (cI, 60, .inl x))]) (by decide) (Nat.le_of_ble_eq_true rfl) ?_
  intro p e s m args below meth c A ls Q hret hname hF hP hD hA hV hR0 hn hPL hnl hl h hS
  have hx := hF.1
  have hb := hF.2.1
  have hml := hF.2.2.1
  have hown : s.vm.findClass RX5 = some m.cls := hF.2.2.2.1
  have htc := hF.2.2.2.2
  have hP : va_P D vwCl [(a_p3, .inl (cI, 60, .inl c_p3))] s.heap := hP
  have hD : va_D A [(a_p3, .inl (cI, 60, .inl c_p3))] := hD
  have hR0 : va_P D vwCl [(a_this, .inr (4, [.int f_this_number, .int f_this_width, .long f_this_size, .int f_this_order]))] s.heap := hR0
  have hR := hR0
  have hl : lv_has ls 9 [(0, .ref a_this), (1, .long v_p1), (3, .ref a_p3)] := hl
  unfold fX5_layLexicographic at h
  refine lv_lload_n hx hb dX5_layLexicographic_0 rfl (lv_at hl 1 rfl) ?_
  refine lv_lstore (lv' := [(4, .long v_p1), (0, .ref a_this), (1, .long v_p1), (3, .ref a_p3)]) hx hb dX5_layLexicographic_1 hl (by decide) rfl (fun ls hl => ?_)
  refine lv_aload_n hx hb dX5_layLexicographic_3 rfl (lv_at hl 1 rfl) ?_
  refine va_get (D := D) (ci := 4) (v := .int f_this_width) (C := RX5) (T := TX5) (N := 4) hx hb htc inX5 hown hV.1 hR 0 rfl rfl 1 (by decide) (htc _ w_1_129) (fun _ h9 => u_same (htc _ w_1_130) _ h9) rfl dX5_layLexicographic_4 ?_
  refine lv_iconst (v := 1) hx hb dX5_layLexicographic_7 (by decide) ?_
  refine lv_isub hx hb dX5_layLexicographic_8 ?_
  refine lv_istore (lv' := [(6, .int (f_this_width - (1 : Int32))), (4, .long v_p1), (0, .ref a_this), (1, .long v_p1), (3, .ref a_p3)]) hx hb dX5_layLexicographic_9 hl (by decide) rfl (fun ls hl => ?_)
  have L11 : ∀ (n11 : Nat) (b11_l4 : Int64) (b11_l6 : Int32) (b11_c_p3 : Nat → Int32), rk_it3 (fX5_layLexicographic_L11 f_this_width) n11 b11_l4 b11_l6 b11_c_p3 = some r0 → ∀ (H : Heap) (locs : List Loc), va_P D vwCl [(a_p3, .inl (cI, 60, .inl b11_c_p3))] H → va_D A [(a_p3, .inl (cI, 60, .inl b11_c_p3))] → va_S A s.heap H locs → ∀ (ls : Array Slot), lv_has ls 9 [(0, .ref a_this), (3, .ref a_p3), (4, .long b11_l4), (6, .int b11_l6)] → W p l e rmX5_layLexicographic s m args below meth c H locs 0 0 Q (F0 m 11 ls []) := by
    intro n11
    induction n11 with
    | zero => intro b11_l4 b11_l6 b11_c_p3 h; exact rk_no h
    | succ n11 ih11 =>
      intro b11_l4 b11_l6 b11_c_p3 h H locs hP hD hS ls hl
      have h : fX5_layLexicographic_L11 f_this_width (rk_it3 (fX5_layLexicographic_L11 f_this_width) n11) b11_l4 b11_l6 b11_c_p3 = some r0 := h
      unfold fX5_layLexicographic_L11 at h
      have hR := rk_keep hR0 hn hS
      refine lv_iload hx hb dX5_layLexicographic_11 (lv_at hl 3 rfl) ?_
      refine lv_if_lt (tgt := 107) hx hb dX5_layLexicographic_13 (by decide) (fun hc1 => ?_) (fun hc1 => ?_)
      · have h := rk_if hc1 h
        exact hret b11_c_p3 _ _ _ _ h dX5_layLexicographic_107 hP hD hS
      · have h := rk_nif hc1 h
        refine lv_lload hx hb dX5_layLexicographic_16 (lv_at hl 2 rfl) ?_
        refine lv_aload_n hx hb dX5_layLexicographic_18 rfl (lv_at hl 0 rfl) ?_
        refine va_get (D := D) (ci := 4) (v := .int f_this_width) (C := RX5) (T := TX5) (N := 4) hx hb htc inX5 hown hV.1 hR 0 rfl rfl 1 (by decide) (htc _ w_1_129) (fun _ h9 => u_same (htc _ w_1_130) _ h9) rfl dX5_layLexicographic_19 ?_
        refine lv_iload hx hb dX5_layLexicographic_22 (lv_at hl 3 rfl) ?_
        refine lv_isub hx hb dX5_layLexicographic_24 ?_
        refine lv_i2l hx hb dX5_layLexicographic_25 rfl ?_
        obtain ⟨r_26, hc_26, h⟩ := rk_bd h
        refine rk_l (wr := [(a_p3, .inl (cI, 60, .inl b11_c_p3))]) (va_runSN (As := [.long b11_l4, .long (f_this_width - b11_l6).toInt64]) (rest := []) hF (mtX9_remainder l D cI cJ cO PL _ b11_l4 ((f_this_width - b11_l6).toInt64) r_26 hc_26) ⟨va_cnB 2 htc (rk_gw w_1_228) rfl rfl rfl (hV.2.1 _ nw_1_226) (htc _ w_1_1) (by decide +kernel) ⟨(Nat.le_of_ble_eq_true rfl), (Nat.le_of_ble_eq_true rfl)⟩, htc _ w_1_227, trivial⟩ (rk_preS hP hD hS hR hn hPL hnl hV [] [] rfl (by decide) rfl (by decide)) rfl rfl hl.1 rfl (lv_room (Nat.le_of_ble_eq_true rfl)) dX5_layLexicographic_26 ⟨(Nat.le_of_ble_eq_true rfl), (Nat.le_of_ble_eq_true rfl)⟩) hP hD hS hA hR0 hn [] [0] rfl rfl (by decide) (by decide) (fun H locs hP hD hS hR => ?_)
        have hP : va_P D vwCl [(a_p3, .inl (cI, 60, .inl b11_c_p3))] H := hP
        have hD : va_D A [(a_p3, .inl (cI, 60, .inl b11_c_p3))] := hD
        refine lv_l2i hx hb dX5_layLexicographic_29 rfl ?_
        refine lv_istore (lv' := [(7, .int r_26.toInt32), (0, .ref a_this), (3, .ref a_p3), (4, .long b11_l4), (6, .int b11_l6)]) hx hb dX5_layLexicographic_30 hl (by decide) rfl (fun ls hl => ?_)
        refine lv_lload hx hb dX5_layLexicographic_32 (lv_at hl 3 rfl) ?_
        refine lv_aload_n hx hb dX5_layLexicographic_34 rfl (lv_at hl 1 rfl) ?_
        refine va_get (D := D) (ci := 4) (v := .int f_this_width) (C := RX5) (T := TX5) (N := 4) hx hb htc inX5 hown hV.1 hR 0 rfl rfl 1 (by decide) (htc _ w_1_129) (fun _ h9 => u_same (htc _ w_1_130) _ h9) rfl dX5_layLexicographic_35 ?_
        refine lv_iload hx hb dX5_layLexicographic_38 (lv_at hl 4 rfl) ?_
        refine lv_isub hx hb dX5_layLexicographic_40 ?_
        refine lv_i2l hx hb dX5_layLexicographic_41 rfl ?_
        obtain ⟨r_42, hc_42, h⟩ := rk_bd h
        refine rk_l (wr := [(a_p3, .inl (cI, 60, .inl b11_c_p3))]) (va_runSN (As := [.long b11_l4, .long (f_this_width - b11_l6).toInt64]) (rest := []) hF (mtX9_quotient l D cI cJ cO PL _ b11_l4 ((f_this_width - b11_l6).toInt64) r_42 hc_42) ⟨va_cnB 2 htc (rk_gw w_1_231) rfl rfl rfl (hV.2.1 _ nw_1_229) (htc _ w_1_1) (by decide +kernel) ⟨(Nat.le_of_ble_eq_true rfl), (Nat.le_of_ble_eq_true rfl)⟩, htc _ w_1_230, trivial⟩ (rk_preS hP hD hS hR hn hPL hnl hV [] [] rfl (by decide) rfl (by decide)) rfl rfl hl.1 rfl (lv_room (Nat.le_of_ble_eq_true rfl)) dX5_layLexicographic_42 ⟨(Nat.le_of_ble_eq_true rfl), (Nat.le_of_ble_eq_true rfl)⟩) hP hD hS hA hR0 hn [] [0] rfl rfl (by decide) (by decide) (fun H locs hP hD hS hR => ?_)
        have hP : va_P D vwCl [(a_p3, .inl (cI, 60, .inl b11_c_p3))] H := hP
        have hD : va_D A [(a_p3, .inl (cI, 60, .inl b11_c_p3))] := hD
        refine lv_lstore (lv' := [(4, .long r_42), (7, .int r_26.toInt32), (0, .ref a_this), (3, .ref a_p3), (6, .int b11_l6)]) hx hb dX5_layLexicographic_45 hl (by decide) rfl (fun ls hl => ?_)
        refine lv_aload_n hx hb dX5_layLexicographic_47 rfl (lv_at hl 3 rfl) ?_
        refine lv_iload hx hb dX5_layLexicographic_48 (lv_at hl 4 rfl) ?_
        refine lv_iload hx hb dX5_layLexicographic_50 (lv_at hl 1 rfl) ?_
        obtain ⟨r_52, hc_52, h⟩ := rk_bd h
        refine rk_v (wr := []) (va_runSN (As := [.ref a_p3, .int b11_l6, .int r_26.toInt32]) (rest := []) hF (mtX9_set l D cI cJ cO PL _ a_p3 60 b11_c_p3 b11_l6 r_26.toInt32 r_52 hc_52) ⟨va_cnB 3 htc (rk_gw w_1_46) rfl rfl rfl (hV.2.1 _ nw_1_225) (htc _ w_1_1) (by decide +kernel) ⟨(Nat.le_of_ble_eq_true rfl), (Nat.le_of_ble_eq_true rfl)⟩, htc _ w_1_45, trivial⟩ (rk_preS hP hD hS hR hn hPL hnl hV [0] [] rfl (by decide) rfl (by decide)) rfl rfl hl.1 rfl (lv_room (Nat.le_of_ble_eq_true rfl)) dX5_layLexicographic_52 ⟨(Nat.le_of_ble_eq_true rfl), (Nat.le_of_ble_eq_true rfl)⟩) hP hD hS hA hR0 hn [0] [] rfl rfl (by decide) (by decide) (fun H locs hP hD hS hR => ?_)
        have hP : va_P D vwCl [(a_p3, .inl (cI, 60, .inl r_52))] H := hP
        have hD : va_D A [(a_p3, .inl (cI, 60, .inl r_52))] := hD
        refine lv_iload hx hb dX5_layLexicographic_55 (lv_at hl 4 rfl) ?_
        refine lv_iconst (v := 1) hx hb dX5_layLexicographic_57 (by decide) ?_
        refine lv_iadd hx hb dX5_layLexicographic_58 ?_
        refine lv_istore (lv' := [(8, .int (b11_l6 + (1 : Int32))), (4, .long r_42), (7, .int r_26.toInt32), (0, .ref a_this), (3, .ref a_p3), (6, .int b11_l6)]) hx hb dX5_layLexicographic_59 hl (by decide) rfl (fun ls hl => ?_)
        have L61 : ∀ (n61 : Nat) (b61_l8 : Int32) (b61_c_p3 : Nat → Int32), rk_it2 (fX5_layLexicographic_L61 f_this_width b11_l6 (rk_it3 (fX5_layLexicographic_L11 f_this_width) n11) r_26 r_42) n61 b61_l8 b61_c_p3 = some r0 → ∀ (H : Heap) (locs : List Loc), va_P D vwCl [(a_p3, .inl (cI, 60, .inl b61_c_p3))] H → va_D A [(a_p3, .inl (cI, 60, .inl b61_c_p3))] → va_S A s.heap H locs → ∀ (ls : Array Slot), lv_has ls 9 [(0, .ref a_this), (3, .ref a_p3), (4, .long r_42), (6, .int b11_l6), (7, .int r_26.toInt32), (8, .int b61_l8)] → W p l e rmX5_layLexicographic s m args below meth c H locs 0 0 Q (F0 m 61 ls []) := by
          intro n61
          induction n61 with
          | zero => intro b61_l8 b61_c_p3 h; exact rk_no h
          | succ n61 ih61 =>
            intro b61_l8 b61_c_p3 h H locs hP hD hS ls hl
            have h : fX5_layLexicographic_L61 f_this_width b11_l6 (rk_it3 (fX5_layLexicographic_L11 f_this_width) n11) r_26 r_42 (rk_it2 (fX5_layLexicographic_L61 f_this_width b11_l6 (rk_it3 (fX5_layLexicographic_L11 f_this_width) n11) r_26 r_42) n61) b61_l8 b61_c_p3 = some r0 := h
            unfold fX5_layLexicographic_L61 at h
            have hR := rk_keep hR0 hn hS
            refine lv_iload hx hb dX5_layLexicographic_61 (lv_at hl 5 rfl) ?_
            refine lv_aload_n hx hb dX5_layLexicographic_63 rfl (lv_at hl 0 rfl) ?_
            refine va_get (D := D) (ci := 4) (v := .int f_this_width) (C := RX5) (T := TX5) (N := 4) hx hb htc inX5 hown hV.1 hR 0 rfl rfl 1 (by decide) (htc _ w_1_129) (fun _ h9 => u_same (htc _ w_1_130) _ h9) rfl dX5_layLexicographic_64 ?_
            refine lv_icmp_ge (tgt := 101) hx hb dX5_layLexicographic_67 (by decide) (fun hc2 => ?_) (fun hc2 => ?_)
            · have h := rk_if hc2 h
              refine lv_iinc (v := (b11_l6 + (-1))) (lv' := [(6, .int (b11_l6 + (-1))), (0, .ref a_this), (3, .ref a_p3), (4, .long r_42), (7, .int r_26.toInt32), (8, .int b61_l8)]) hx hb dX5_layLexicographic_101 hl (k := 3) rfl rfl (by decide) rfl (fun ls hl => ?_)
              refine lv_goto (tgt := 11) hx hb dX5_layLexicographic_104 (by decide) ?_
              exact ih11 r_42 (b11_l6 + (-1)) b61_c_p3 h _ _ hP hD hS _ (lv_sub hl [1, 2, 3, 0] rfl)
            · have h := rk_nif hc2 h
              refine lv_aload_n hx hb dX5_layLexicographic_70 rfl (lv_at hl 1 rfl) ?_
              refine lv_iload hx hb dX5_layLexicographic_71 (lv_at hl 5 rfl) ?_
              obtain ⟨r_73, hc_73, h⟩ := rk_bd h
              refine rk_i (wr := [(a_p3, .inl (cI, 60, .inl b61_c_p3))]) (va_runSN (As := [.ref a_p3, .int b61_l8]) (rest := []) hF (mtX9_at l D cI cJ cO PL _ a_p3 60 b61_c_p3 b61_l8 r_73 hc_73) ⟨va_cnB 2 htc (rk_gw w_1_52) rfl rfl rfl (hV.2.1 _ nw_1_239) (htc _ w_1_1) (by decide +kernel) ⟨(Nat.le_of_ble_eq_true rfl), (Nat.le_of_ble_eq_true rfl)⟩, htc _ w_1_51, trivial⟩ (rk_preS hP hD hS hR hn hPL hnl hV [] [(true, 0)] rfl (by decide) rfl (by decide)) rfl rfl hl.1 rfl (lv_room (Nat.le_of_ble_eq_true rfl)) dX5_layLexicographic_73 ⟨(Nat.le_of_ble_eq_true rfl), (Nat.le_of_ble_eq_true rfl)⟩) hP hD hS hA hR0 hn [] [0] rfl rfl (by decide) (by decide) (fun H locs hP hD hS hR => ?_)
              have hP : va_P D vwCl [(a_p3, .inl (cI, 60, .inl b61_c_p3))] H := hP
              have hD : va_D A [(a_p3, .inl (cI, 60, .inl b61_c_p3))] := hD
              refine lv_iload hx hb dX5_layLexicographic_76 (lv_at hl 4 rfl) ?_
              have B95 : ∀ (b95_c_p3 : Nat → Int32), fX5_layLexicographic_B95 b61_l8 (rk_it2 (fX5_layLexicographic_L61 f_this_width b11_l6 (rk_it3 (fX5_layLexicographic_L11 f_this_width) n11) r_26 r_42) n61) b95_c_p3 = some r0 → ∀ (H : Heap) (locs : List Loc), va_P D vwCl [(a_p3, .inl (cI, 60, .inl b95_c_p3))] H → va_D A [(a_p3, .inl (cI, 60, .inl b95_c_p3))] → va_S A s.heap H locs → ∀ (ls : Array Slot), lv_has ls 9 [(0, .ref a_this), (3, .ref a_p3), (4, .long r_42), (6, .int b11_l6), (7, .int r_26.toInt32), (8, .int b61_l8)] → W p l e rmX5_layLexicographic s m args below meth c H locs 0 0 Q (F0 m 95 ls []) := by
                intro b95_c_p3 h H locs hP hD hS ls hl
                unfold fX5_layLexicographic_B95 at h
                have hR := rk_keep hR0 hn hS
                refine lv_iinc (v := (b61_l8 + 1)) (lv' := [(8, .int (b61_l8 + 1)), (0, .ref a_this), (3, .ref a_p3), (4, .long r_42), (6, .int b11_l6), (7, .int r_26.toInt32)]) hx hb dX5_layLexicographic_95 hl (k := 5) rfl rfl (by decide) rfl (fun ls hl => ?_)
                refine lv_goto (tgt := 61) hx hb dX5_layLexicographic_98 (by decide) ?_
                exact ih61 (b61_l8 + 1) b95_c_p3 h _ _ hP hD hS _ (lv_sub hl [1, 2, 3, 4, 5, 0] rfl)
              refine lv_icmp_lt (tgt := 95) hx hb dX5_layLexicographic_78 (by decide) (fun hc3 => ?_) (fun hc3 => ?_)
              · have h := rk_if hc3 h
                exact B95 b61_c_p3 h _ _ hP hD hS _ hl
              · have h := rk_nif hc3 h
                refine lv_aload_n hx hb dX5_layLexicographic_81 rfl (lv_at hl 1 rfl) ?_
                refine lv_iload hx hb dX5_layLexicographic_82 (lv_at hl 5 rfl) ?_
                refine lv_aload_n hx hb dX5_layLexicographic_84 rfl (lv_at hl 1 rfl) ?_
                refine lv_iload hx hb dX5_layLexicographic_85 (lv_at hl 5 rfl) ?_
                obtain ⟨r_87, hc_87, h⟩ := rk_bd h
                refine rk_i (wr := [(a_p3, .inl (cI, 60, .inl b61_c_p3))]) (va_runSN (As := [.ref a_p3, .int b61_l8]) (rest := [.int b61_l8, .ref a_p3]) hF (mtX9_at l D cI cJ cO PL _ a_p3 60 b61_c_p3 b61_l8 r_87 hc_87) ⟨va_cnB 2 htc (rk_gw w_1_52) rfl rfl rfl (hV.2.1 _ nw_1_239) (htc _ w_1_1) (by decide +kernel) ⟨(Nat.le_of_ble_eq_true rfl), (Nat.le_of_ble_eq_true rfl)⟩, htc _ w_1_51, trivial⟩ (rk_preS hP hD hS hR hn hPL hnl hV [] [(true, 0)] rfl (by decide) rfl (by decide)) rfl rfl hl.1 rfl (lv_room (Nat.le_of_ble_eq_true rfl)) dX5_layLexicographic_87 ⟨(Nat.le_of_ble_eq_true rfl), (Nat.le_of_ble_eq_true rfl)⟩) hP hD hS hA hR0 hn [] [0] rfl rfl (by decide) (by decide) (fun H locs hP hD hS hR => ?_)
                have hP : va_P D vwCl [(a_p3, .inl (cI, 60, .inl b61_c_p3))] H := hP
                have hD : va_D A [(a_p3, .inl (cI, 60, .inl b61_c_p3))] := hD
                refine lv_iconst (v := 1) hx hb dX5_layLexicographic_90 (by decide) ?_
                refine lv_iadd hx hb dX5_layLexicographic_91 ?_
                obtain ⟨r_92, hc_92, h⟩ := rk_bd h
                refine rk_v (wr := []) (va_runSN (As := [.ref a_p3, .int b61_l8, .int (r_87 + (1 : Int32))]) (rest := []) hF (mtX9_set l D cI cJ cO PL _ a_p3 60 b61_c_p3 b61_l8 (r_87 + (1 : Int32)) r_92 hc_92) ⟨va_cnB 3 htc (rk_gw w_1_46) rfl rfl rfl (hV.2.1 _ nw_1_225) (htc _ w_1_1) (by decide +kernel) ⟨(Nat.le_of_ble_eq_true rfl), (Nat.le_of_ble_eq_true rfl)⟩, htc _ w_1_45, trivial⟩ (rk_preS hP hD hS hR hn hPL hnl hV [0] [] rfl (by decide) rfl (by decide)) rfl rfl hl.1 rfl (lv_room (Nat.le_of_ble_eq_true rfl)) dX5_layLexicographic_92 ⟨(Nat.le_of_ble_eq_true rfl), (Nat.le_of_ble_eq_true rfl)⟩) hP hD hS hA hR0 hn [0] [] rfl rfl (by decide) (by decide) (fun H locs hP hD hS hR => ?_)
                have hP : va_P D vwCl [(a_p3, .inl (cI, 60, .inl r_92))] H := hP
                have hD : va_D A [(a_p3, .inl (cI, 60, .inl r_92))] := hD
                exact B95 r_92 h _ _ hP hD hS _ hl
        exact L61 FU (b11_l6 + (1 : Int32)) r_52 h _ _ hP hD hS _ (lv_sub hl [3, 4, 1, 5, 2, 0] rfl)
  exact L11 FU v_p1 (f_this_width - (1 : Int32)) c_p3 h _ _ hP hD hS _ (lv_sub hl [2, 4, 1, 0] rfl)
set_option maxHeartbeats 4000000 in
set_option maxRecDepth 100000 in
theorem mtX5_freePlace (l : Launch) (D : va_G) (cI cJ cO : ClassId) (PL : va_W) (sz : Nat) (a_this : Nat) (f_this_number : Int32) (f_this_width : Int32) (f_this_size : Int64) (f_this_order : Int32) (a_p1 : Nat) (c_p1 : Nat → Int32) (v_p2 : Int32) (r0 : Int32) (h : fX5_freePlace f_this_width c_p1 v_p2 = some r0) : Met l yX5_freePlace (rk_w yX5_freePlace cX5_freePlace 5 (some .int)) rmX5_freePlace (va_Pc [.ref a_this, .ref a_p1, .int v_p2] (rk_B D (rk_TY cI cJ cO) [] [(a_this, .inr (4, [.int f_this_number, .int f_this_width, .long f_this_size, .int f_this_order])), (a_p1, .inl (cI, 60, .inl c_p1))] PL sz)) (rk_Qi r0 D [] [] sz) 0 0 (va_A [] sz) := by
  refine rk_meti h (fun x : Int32 => x) (fun x => []) (by decide) (Nat.le_of_ble_eq_true rfl) ?_
  intro p e s m args below meth c A ls Q hret hname hF hP hD hA hV hR0 hn hPL hnl hl h hS
  have hx := hF.1
  have hb := hF.2.1
  have hml := hF.2.2.1
  have hown : s.vm.findClass RX5 = some m.cls := hF.2.2.2.1
  have htc := hF.2.2.2.2
  have hP : va_P D vwCl [] s.heap := hP
  have hD : va_D A [] := hD
  have hR0 : va_P D vwCl [(a_this, .inr (4, [.int f_this_number, .int f_this_width, .long f_this_size, .int f_this_order])), (a_p1, .inl (cI, 60, .inl c_p1))] s.heap := hR0
  have hR := hR0
  have hl : lv_has ls 5 [(0, .ref a_this), (1, .ref a_p1), (2, .int v_p2)] := hl
  unfold fX5_freePlace at h
  refine lv_iconst (v := 0) hx hb dX5_freePlace_0 (by decide) ?_
  refine lv_istore_n (lv' := [(3, .int (0 : Int32)), (0, .ref a_this), (1, .ref a_p1), (2, .int v_p2)]) hx hb dX5_freePlace_1 rfl hl (by decide) rfl (fun ls hl => ?_)
  refine lv_iconst (v := 0) hx hb dX5_freePlace_2 (by decide) ?_
  refine lv_istore (lv' := [(4, .int (0 : Int32)), (3, .int (0 : Int32)), (0, .ref a_this), (1, .ref a_p1), (2, .int v_p2)]) hx hb dX5_freePlace_3 hl (by decide) rfl (fun ls hl => ?_)
  have L5 : ∀ (n5 : Nat) (b5_l3 : Int32) (b5_l4 : Int32), rk_it2 (fX5_freePlace_L5 f_this_width c_p1 v_p2) n5 b5_l3 b5_l4 = some r0 → ∀ (H : Heap) (locs : List Loc), va_P D vwCl [] H → va_D A [] → va_S A s.heap H locs → ∀ (ls : Array Slot), lv_has ls 5 [(0, .ref a_this), (1, .ref a_p1), (2, .int v_p2), (3, .int b5_l3), (4, .int b5_l4)] → W p l e rmX5_freePlace s m args below meth c H locs 0 0 Q (F0 m 5 ls []) := by
    intro n5
    induction n5 with
    | zero => intro b5_l3 b5_l4 h; exact rk_no h
    | succ n5 ih5 =>
      intro b5_l3 b5_l4 h H locs hP hD hS ls hl
      have h : fX5_freePlace_L5 f_this_width c_p1 v_p2 (rk_it2 (fX5_freePlace_L5 f_this_width c_p1 v_p2) n5) b5_l3 b5_l4 = some r0 := h
      unfold fX5_freePlace_L5 at h
      have hR := rk_keep hR0 hn hS
      refine lv_iload hx hb dX5_freePlace_5 (lv_at hl 4 rfl) ?_
      refine lv_aload_n hx hb dX5_freePlace_7 rfl (lv_at hl 0 rfl) ?_
      refine va_get (D := D) (ci := 4) (v := .int f_this_width) (C := RX5) (T := TX5) (N := 4) hx hb htc inX5 hown hV.1 hR 0 rfl rfl 1 (by decide) (htc _ w_1_129) (fun _ h9 => u_same (htc _ w_1_130) _ h9) rfl dX5_freePlace_8 ?_
      refine lv_icmp_ge (tgt := 40) hx hb dX5_freePlace_11 (by decide) (fun hc1 => ?_) (fun hc1 => ?_)
      · have h := rk_if hc1 h
        refine lv_iconst (v := (-1)) hx hb dX5_freePlace_40 (by decide) ?_
        exact hret (-1 : Int32) _ _ _ _ h dX5_freePlace_41 hP hD hS
      · have h := rk_nif hc1 h
        refine lv_aload_n hx hb dX5_freePlace_14 rfl (lv_at hl 1 rfl) ?_
        refine lv_iload hx hb dX5_freePlace_15 (lv_at hl 4 rfl) ?_
        obtain ⟨r_17, hc_17, h⟩ := rk_bd h
        refine rk_i (wr := []) (va_runSN (As := [.ref a_p1, .int b5_l4]) (rest := []) hF (mtX9_at l D cI cJ cO PL _ a_p1 60 c_p1 b5_l4 r_17 hc_17) ⟨va_cnB 2 htc (rk_gw w_1_52) rfl rfl rfl (hV.2.1 _ nw_1_239) (htc _ w_1_1) (by decide +kernel) ⟨(Nat.le_of_ble_eq_true rfl), (Nat.le_of_ble_eq_true rfl)⟩, htc _ w_1_51, trivial⟩ (rk_preS hP hD hS hR hn hPL hnl hV [] [(false, 1)] rfl (by decide) rfl (by decide)) rfl rfl hl.1 rfl (lv_room (Nat.le_of_ble_eq_true rfl)) dX5_freePlace_17 ⟨(Nat.le_of_ble_eq_true rfl), (Nat.le_of_ble_eq_true rfl)⟩) hP hD hS hA hR0 hn [] [] rfl rfl (by decide) (by decide) (fun H locs hP hD hS hR => ?_)
        have hP : va_P D vwCl [] H := hP
        have hD : va_D A [] := hD
        have B34 : ∀ (b34_l3 : Int32), fX5_freePlace_B34 b5_l4 (rk_it2 (fX5_freePlace_L5 f_this_width c_p1 v_p2) n5) b34_l3 = some r0 → ∀ (H : Heap) (locs : List Loc), va_P D vwCl [] H → va_D A [] → va_S A s.heap H locs → ∀ (ls : Array Slot), lv_has ls 5 [(0, .ref a_this), (1, .ref a_p1), (2, .int v_p2), (3, .int b34_l3), (4, .int b5_l4)] → W p l e rmX5_freePlace s m args below meth c H locs 0 0 Q (F0 m 34 ls []) := by
          intro b34_l3 h H locs hP hD hS ls hl
          unfold fX5_freePlace_B34 at h
          have hR := rk_keep hR0 hn hS
          refine lv_iinc (v := (b5_l4 + 1)) (lv' := [(4, .int (b5_l4 + 1)), (0, .ref a_this), (1, .ref a_p1), (2, .int v_p2), (3, .int b34_l3)]) hx hb dX5_freePlace_34 hl (k := 4) rfl rfl (by decide) rfl (fun ls hl => ?_)
          refine lv_goto (tgt := 5) hx hb dX5_freePlace_37 (by decide) ?_
          exact ih5 b34_l3 (b5_l4 + 1) h _ _ hP hD hS _ (lv_sub hl [1, 2, 3, 4, 0] rfl)
        refine lv_if_ge (tgt := 34) hx hb dX5_freePlace_20 (by decide) (fun hc2 => ?_) (fun hc2 => ?_)
        · have h := rk_if hc2 h
          exact B34 b5_l3 h _ _ hP hD hS _ hl
        · have h := rk_nif hc2 h
          refine lv_iload_n hx hb dX5_freePlace_23 rfl (lv_at hl 3 rfl) ?_
          refine lv_iload_n hx hb dX5_freePlace_24 rfl (lv_at hl 2 rfl) ?_
          refine lv_icmp_ne (tgt := 31) hx hb dX5_freePlace_25 (by decide) (fun hc3 => ?_) (fun hc3 => ?_)
          · have h := rk_if hc3 h
            refine lv_iinc (v := (b5_l3 + 1)) (lv' := [(3, .int (b5_l3 + 1)), (0, .ref a_this), (1, .ref a_p1), (2, .int v_p2), (4, .int b5_l4)]) hx hb dX5_freePlace_31 hl (k := 3) rfl rfl (by decide) rfl (fun ls hl => ?_)
            exact B34 (b5_l3 + 1) h _ _ hP hD hS _ (lv_sub hl [1, 2, 3, 0, 4] rfl)
          · have h := rk_nnif hc3 h
            refine lv_iload hx hb dX5_freePlace_28 (lv_at hl 4 rfl) ?_
            exact hret b5_l4 _ _ _ _ h dX5_freePlace_30 hP hD hS
  exact L5 FU (0 : Int32) (0 : Int32) h _ _ hP hD hS _ (lv_sub hl [2, 3, 4, 1, 0] rfl)
