set_option maxHeartbeats 4000000 in
set_option maxRecDepth 100000 in
theorem mtX10_selectWords (l : Launch) (D : va_G) (cI cJ cO : ClassId) (PL : va_W) (sz : Nat) (a_this : Nat) (a_this_chosen : Nat) (a_this_factorial : Nat) (a_this_catalan : Nat) (a_this_parted : Nat) (a_this_closed : Nat) (f_this_now : Int32) (a_this_of : Nat) (a_this_buffer : Nat) (a_this_made : Nat) (a_this_stackOne : Nat) (a_this_stackOther : Nat) (a_this_stackLong : Nat) (a_this_left : Nat) (f_this_entryMany : Int32) (a_this_entryFamily : Nat) (a_this_entryOf : Nat) (a_this_entryRank : Nat) (c_this_buffer : Nat → Int32) (c_this_left : Nat → Int32) (c_this_made : Nat → Int32) (c_this_of : Nat → Int32) (c_this_stackLong : Nat → Int64) (c_this_stackOne : Nat → Int32) (c_this_catalan : Nat → Int64) (c_this_chosen : Nat → Int64) (c_this_closed : Nat → Int64) (c_this_parted : Nat → Int64) (v_p1 : Int32) (v_p2 : Int32) (r0 : Int32 × Int32 × (Nat → Int32) × (Nat → Int32) × (Nat → Int32) × (Nat → Int32) × (Nat → Int64) × (Nat → Int32)) (h : fX10_selectWords f_this_now c_this_buffer c_this_left c_this_made c_this_of c_this_stackLong c_this_stackOne c_this_catalan c_this_chosen c_this_closed c_this_parted v_p1 v_p2 = some r0) : Met l yX10_selectWords (rk_w yX10_selectWords cX10_selectWords 3 (some .int)) rmX10_selectWords (va_Pc [.ref a_this, .int v_p1, .int v_p2] (rk_B D (rk_TY cI cJ cO) [(a_this, .inr (9, [.ref a_this_chosen, .ref a_this_factorial, .ref a_this_catalan, .ref a_this_parted, .ref a_this_closed, .int f_this_now, .ref a_this_of, .ref a_this_buffer, .ref a_this_made, .ref a_this_stackOne, .ref a_this_stackOther, .ref a_this_stackLong, .ref a_this_left, .int f_this_entryMany, .ref a_this_entryFamily, .ref a_this_entryOf, .ref a_this_entryRank])), (a_this_buffer, .inl (cI, 60, .inl c_this_buffer)), (a_this_left, .inl (cI, 4, .inl c_this_left)), (a_this_made, .inl (cI, 60, .inl c_this_made)), (a_this_of, .inl (cI, 4, .inl c_this_of)), (a_this_stackLong, .inl (cJ, 64, .inr (.inl c_this_stackLong))), (a_this_stackOne, .inl (cI, 64, .inl c_this_stackOne))] [(a_this_catalan, .inl (cJ, 31, .inr (.inl c_this_catalan))), (a_this_chosen, .inl (cJ, 3721, .inr (.inl c_this_chosen))), (a_this_closed, .inl (cJ, 1722, .inr (.inl c_this_closed))), (a_this_parted, .inl (cJ, 3721, .inr (.inl c_this_parted)))] PL sz)) (rk_Qi r0.1 D [(a_this, .inr (9, [.ref a_this_chosen, .ref a_this_factorial, .ref a_this_catalan, .ref a_this_parted, .ref a_this_closed, .int r0.2.1, .ref a_this_of, .ref a_this_buffer, .ref a_this_made, .ref a_this_stackOne, .ref a_this_stackOther, .ref a_this_stackLong, .ref a_this_left, .int f_this_entryMany, .ref a_this_entryFamily, .ref a_this_entryOf, .ref a_this_entryRank])), (a_this_buffer, .inl (cI, 60, .inl r0.2.2.1)), (a_this_left, .inl (cI, 4, .inl r0.2.2.2.1)), (a_this_made, .inl (cI, 60, .inl r0.2.2.2.2.1)), (a_this_of, .inl (cI, 4, .inl r0.2.2.2.2.2.1)), (a_this_stackLong, .inl (cJ, 64, .inr (.inl r0.2.2.2.2.2.2.1))), (a_this_stackOne, .inl (cI, 64, .inl r0.2.2.2.2.2.2.2))] [(a_this, .inr (9, [.ref a_this_chosen, .ref a_this_factorial, .ref a_this_catalan, .ref a_this_parted, .ref a_this_closed, .int f_this_now, .ref a_this_of, .ref a_this_buffer, .ref a_this_made, .ref a_this_stackOne, .ref a_this_stackOther, .ref a_this_stackLong, .ref a_this_left, .int f_this_entryMany, .ref a_this_entryFamily, .ref a_this_entryOf, .ref a_this_entryRank])), (a_this_buffer, .inl (cI, 60, .inl c_this_buffer)), (a_this_left, .inl (cI, 4, .inl c_this_left)), (a_this_made, .inl (cI, 60, .inl c_this_made)), (a_this_of, .inl (cI, 4, .inl c_this_of)), (a_this_stackLong, .inl (cJ, 64, .inr (.inl c_this_stackLong))), (a_this_stackOne, .inl (cI, 64, .inl c_this_stackOne))] sz) 0 0 (va_A [(a_this, .inr (9, [.ref a_this_chosen, .ref a_this_factorial, .ref a_this_catalan, .ref a_this_parted, .ref a_this_closed, .int f_this_now, .ref a_this_of, .ref a_this_buffer, .ref a_this_made, .ref a_this_stackOne, .ref a_this_stackOther, .ref a_this_stackLong, .ref a_this_left, .int f_this_entryMany, .ref a_this_entryFamily, .ref a_this_entryOf, .ref a_this_entryRank])), (a_this_buffer, .inl (cI, 60, .inl c_this_buffer)), (a_this_left, .inl (cI, 4, .inl c_this_left)), (a_this_made, .inl (cI, 60, .inl c_this_made)), (a_this_of, .inl (cI, 4, .inl c_this_of)), (a_this_stackLong, .inl (cJ, 64, .inr (.inl c_this_stackLong))), (a_this_stackOne, .inl (cI, 64, .inl c_this_stackOne))] sz) := by
  refine rk_meti h (fun x : Int32 × Int32 × (Nat → Int32) × (Nat → Int32) × (Nat → Int32) × (Nat → Int32) × (Nat → Int64) × (Nat → Int32) => x.1) (fun x => [(a_this, .inr (9, [.ref a_this_chosen, .ref a_this_factorial, .ref a_this_catalan, .ref a_this_parted, .ref a_this_closed, .int x.2.1, .ref a_this_of, .ref a_this_buffer, .ref a_this_made, .ref a_this_stackOne, .ref a_this_stackOther, .ref a_this_stackLong, .ref a_this_left, .int f_this_entryMany, .ref a_this_entryFamily, .ref a_this_entryOf, .ref a_this_entryRank])), (a_this_buffer, .inl (cI, 60, .inl x.2.2.1)), (a_this_left, .inl (cI, 4, .inl x.2.2.2.1)), (a_this_made, .inl (cI, 60, .inl x.2.2.2.2.1)), (a_this_of, .inl (cI, 4, .inl x.2.2.2.2.2.1)), (a_this_stackLong, .inl (cJ, 64, .inr (.inl x.2.2.2.2.2.2.1))), (a_this_stackOne, .inl (cI, 64, .inl x.2.2.2.2.2.2.2))]) (by decide) (Nat.le_of_ble_eq_true rfl) ?_
  intro p e s m args below meth c A ls Q hret hname hF hP hD hA hV hR0 hn hPL hnl hl h hS
  have hx := hF.1
  have hb := hF.2.1
  have hml := hF.2.2.1
  have hown : s.vm.findClass RX10 = some m.cls := hF.2.2.2.1
  have htc := hF.2.2.2.2
  have hP : va_P D vwCl [(a_this, .inr (9, [.ref a_this_chosen, .ref a_this_factorial, .ref a_this_catalan, .ref a_this_parted, .ref a_this_closed, .int f_this_now, .ref a_this_of, .ref a_this_buffer, .ref a_this_made, .ref a_this_stackOne, .ref a_this_stackOther, .ref a_this_stackLong, .ref a_this_left, .int f_this_entryMany, .ref a_this_entryFamily, .ref a_this_entryOf, .ref a_this_entryRank])), (a_this_buffer, .inl (cI, 60, .inl c_this_buffer)), (a_this_left, .inl (cI, 4, .inl c_this_left)), (a_this_made, .inl (cI, 60, .inl c_this_made)), (a_this_of, .inl (cI, 4, .inl c_this_of)), (a_this_stackLong, .inl (cJ, 64, .inr (.inl c_this_stackLong))), (a_this_stackOne, .inl (cI, 64, .inl c_this_stackOne))] s.heap := hP
  have hD : va_D A [(a_this, .inr (9, [.ref a_this_chosen, .ref a_this_factorial, .ref a_this_catalan, .ref a_this_parted, .ref a_this_closed, .int f_this_now, .ref a_this_of, .ref a_this_buffer, .ref a_this_made, .ref a_this_stackOne, .ref a_this_stackOther, .ref a_this_stackLong, .ref a_this_left, .int f_this_entryMany, .ref a_this_entryFamily, .ref a_this_entryOf, .ref a_this_entryRank])), (a_this_buffer, .inl (cI, 60, .inl c_this_buffer)), (a_this_left, .inl (cI, 4, .inl c_this_left)), (a_this_made, .inl (cI, 60, .inl c_this_made)), (a_this_of, .inl (cI, 4, .inl c_this_of)), (a_this_stackLong, .inl (cJ, 64, .inr (.inl c_this_stackLong))), (a_this_stackOne, .inl (cI, 64, .inl c_this_stackOne))] := hD
  have hR0 : va_P D vwCl [(a_this_catalan, .inl (cJ, 31, .inr (.inl c_this_catalan))), (a_this_chosen, .inl (cJ, 3721, .inr (.inl c_this_chosen))), (a_this_closed, .inl (cJ, 1722, .inr (.inl c_this_closed))), (a_this_parted, .inl (cJ, 3721, .inr (.inl c_this_parted)))] s.heap := hR0
  have hR := hR0
  have hl : lv_has ls 3 [(0, .ref a_this), (1, .int v_p1), (2, .int v_p2)] := hl
  unfold fX10_selectWords at h
  refine lv_iload_n hx hb dX10_selectWords_0 rfl (lv_at hl 1 rfl) ?_
  refine lv_i2l hx hb dX10_selectWords_1 rfl ?_
  refine lv_lconst (v := 1) hx hb dX10_selectWords_2 (by decide) ?_
  refine lv_ldc2 (v := (20 : Int64)) hx hb hown (htc _ w_4_126) dX10_selectWords_3 ?_
  obtain ⟨r_6, hc_6, h⟩ := rk_bd h
  refine rk_i (wr := [(a_this, .inr (9, [.ref a_this_chosen, .ref a_this_factorial, .ref a_this_catalan, .ref a_this_parted, .ref a_this_closed, .int f_this_now, .ref a_this_of, .ref a_this_buffer, .ref a_this_made, .ref a_this_stackOne, .ref a_this_stackOther, .ref a_this_stackLong, .ref a_this_left, .int f_this_entryMany, .ref a_this_entryFamily, .ref a_this_entryOf, .ref a_this_entryRank])), (a_this_buffer, .inl (cI, 60, .inl c_this_buffer)), (a_this_left, .inl (cI, 4, .inl c_this_left)), (a_this_made, .inl (cI, 60, .inl c_this_made)), (a_this_of, .inl (cI, 4, .inl c_this_of)), (a_this_stackLong, .inl (cJ, 64, .inr (.inl c_this_stackLong))), (a_this_stackOne, .inl (cI, 64, .inl c_this_stackOne))]) (va_runS (As := [.long v_p1.toInt64, .long (1 : Int64), .long (20 : Int64)]) (rest := []) hF (mtX10_within l D cI cJ cO PL _ v_p1.toInt64 (1 : Int64) (20 : Int64) r_6 hc_6) (va_cwS 3 htc (rk_gVS w_4_50 w_4_51 w_1_7 w_4_52) rfl rfl rfl (by decide +kernel) ⟨(Nat.le_of_ble_eq_true rfl), (Nat.le_of_ble_eq_true rfl)⟩) (rk_preS hP hD hS hR hn hPL hnl hV [] [] rfl (by decide) rfl (by decide)) rfl rfl hl.1 rfl (lv_room (Nat.le_of_ble_eq_true rfl)) dX10_selectWords_6 ⟨(Nat.le_of_ble_eq_true rfl), (Nat.le_of_ble_eq_true rfl)⟩) hP hD hS hA hR0 hn [] [0, 1, 2, 3, 4, 5, 6] rfl rfl (by decide) (by decide) (fun H locs hP hD hS hR => ?_)
  have hP : va_P D vwCl [(a_this, .inr (9, [.ref a_this_chosen, .ref a_this_factorial, .ref a_this_catalan, .ref a_this_parted, .ref a_this_closed, .int f_this_now, .ref a_this_of, .ref a_this_buffer, .ref a_this_made, .ref a_this_stackOne, .ref a_this_stackOther, .ref a_this_stackLong, .ref a_this_left, .int f_this_entryMany, .ref a_this_entryFamily, .ref a_this_entryOf, .ref a_this_entryRank])), (a_this_buffer, .inl (cI, 60, .inl c_this_buffer)), (a_this_left, .inl (cI, 4, .inl c_this_left)), (a_this_made, .inl (cI, 60, .inl c_this_made)), (a_this_of, .inl (cI, 4, .inl c_this_of)), (a_this_stackLong, .inl (cJ, 64, .inr (.inl c_this_stackLong))), (a_this_stackOne, .inl (cI, 64, .inl c_this_stackOne))] H := hP
  have hD : va_D A [(a_this, .inr (9, [.ref a_this_chosen, .ref a_this_factorial, .ref a_this_catalan, .ref a_this_parted, .ref a_this_closed, .int f_this_now, .ref a_this_of, .ref a_this_buffer, .ref a_this_made, .ref a_this_stackOne, .ref a_this_stackOther, .ref a_this_stackLong, .ref a_this_left, .int f_this_entryMany, .ref a_this_entryFamily, .ref a_this_entryOf, .ref a_this_entryRank])), (a_this_buffer, .inl (cI, 60, .inl c_this_buffer)), (a_this_left, .inl (cI, 4, .inl c_this_left)), (a_this_made, .inl (cI, 60, .inl c_this_made)), (a_this_of, .inl (cI, 4, .inl c_this_of)), (a_this_stackLong, .inl (cJ, 64, .inr (.inl c_this_stackLong))), (a_this_stackOne, .inl (cI, 64, .inl c_this_stackOne))] := hD
  have B36 : fX10_selectWords_B36 f_this_now c_this_buffer c_this_left c_this_made c_this_of c_this_stackLong c_this_stackOne = some r0 → ∀ (H : Heap) (locs : List Loc), va_P D vwCl [(a_this, .inr (9, [.ref a_this_chosen, .ref a_this_factorial, .ref a_this_catalan, .ref a_this_parted, .ref a_this_closed, .int f_this_now, .ref a_this_of, .ref a_this_buffer, .ref a_this_made, .ref a_this_stackOne, .ref a_this_stackOther, .ref a_this_stackLong, .ref a_this_left, .int f_this_entryMany, .ref a_this_entryFamily, .ref a_this_entryOf, .ref a_this_entryRank])), (a_this_buffer, .inl (cI, 60, .inl c_this_buffer)), (a_this_left, .inl (cI, 4, .inl c_this_left)), (a_this_made, .inl (cI, 60, .inl c_this_made)), (a_this_of, .inl (cI, 4, .inl c_this_of)), (a_this_stackLong, .inl (cJ, 64, .inr (.inl c_this_stackLong))), (a_this_stackOne, .inl (cI, 64, .inl c_this_stackOne))] H → va_D A [(a_this, .inr (9, [.ref a_this_chosen, .ref a_this_factorial, .ref a_this_catalan, .ref a_this_parted, .ref a_this_closed, .int f_this_now, .ref a_this_of, .ref a_this_buffer, .ref a_this_made, .ref a_this_stackOne, .ref a_this_stackOther, .ref a_this_stackLong, .ref a_this_left, .int f_this_entryMany, .ref a_this_entryFamily, .ref a_this_entryOf, .ref a_this_entryRank])), (a_this_buffer, .inl (cI, 60, .inl c_this_buffer)), (a_this_left, .inl (cI, 4, .inl c_this_left)), (a_this_made, .inl (cI, 60, .inl c_this_made)), (a_this_of, .inl (cI, 4, .inl c_this_of)), (a_this_stackLong, .inl (cJ, 64, .inr (.inl c_this_stackLong))), (a_this_stackOne, .inl (cI, 64, .inl c_this_stackOne))] → va_S A s.heap H locs → ∀ (ls : Array Slot), lv_has ls 3 [] → W p l e rmX10_selectWords s m args below meth c H locs 0 0 Q (F0 m 36 ls []) := by
    intro  h H locs hP hD hS ls hl
    unfold fX10_selectWords_B36 at h
    have hR := rk_keep hR0 hn hS
    refine lv_iconst (v := (-1)) hx hb dX10_selectWords_36 (by decide) ?_
    exact hret ((-1 : Int32), f_this_now, c_this_buffer, c_this_left, c_this_made, c_this_of, c_this_stackLong, c_this_stackOne) _ _ _ _ h dX10_selectWords_37 hP hD hS
  refine lv_if_eq (tgt := 36) hx hb dX10_selectWords_9 (by decide) (fun hc1 => ?_) (fun hc1 => ?_)
  · have h := rk_if hc1 h
    exact B36  h _ _ hP hD hS _ (lv_sub hl [] rfl)
  · have h := rk_nif hc1 h
    refine lv_iload_n hx hb dX10_selectWords_12 rfl (lv_at hl 2 rfl) ?_
    refine lv_i2l hx hb dX10_selectWords_13 rfl ?_
    refine lv_lconst (v := 1) hx hb dX10_selectWords_14 (by decide) ?_
    refine lv_ldc2 (v := (2 : Int64)) hx hb hown (htc _ w_4_53) dX10_selectWords_15 ?_
    obtain ⟨r_18, hc_18, h⟩ := rk_bd h
    refine rk_i (wr := [(a_this, .inr (9, [.ref a_this_chosen, .ref a_this_factorial, .ref a_this_catalan, .ref a_this_parted, .ref a_this_closed, .int f_this_now, .ref a_this_of, .ref a_this_buffer, .ref a_this_made, .ref a_this_stackOne, .ref a_this_stackOther, .ref a_this_stackLong, .ref a_this_left, .int f_this_entryMany, .ref a_this_entryFamily, .ref a_this_entryOf, .ref a_this_entryRank])), (a_this_buffer, .inl (cI, 60, .inl c_this_buffer)), (a_this_left, .inl (cI, 4, .inl c_this_left)), (a_this_made, .inl (cI, 60, .inl c_this_made)), (a_this_of, .inl (cI, 4, .inl c_this_of)), (a_this_stackLong, .inl (cJ, 64, .inr (.inl c_this_stackLong))), (a_this_stackOne, .inl (cI, 64, .inl c_this_stackOne))]) (va_runS (As := [.long v_p2.toInt64, .long (1 : Int64), .long (2 : Int64)]) (rest := []) hF (mtX10_within l D cI cJ cO PL _ v_p2.toInt64 (1 : Int64) (2 : Int64) r_18 hc_18) (va_cwS 3 htc (rk_gVS w_4_50 w_4_51 w_1_7 w_4_52) rfl rfl rfl (by decide +kernel) ⟨(Nat.le_of_ble_eq_true rfl), (Nat.le_of_ble_eq_true rfl)⟩) (rk_preS hP hD hS hR hn hPL hnl hV [] [] rfl (by decide) rfl (by decide)) rfl rfl hl.1 rfl (lv_room (Nat.le_of_ble_eq_true rfl)) dX10_selectWords_18 ⟨(Nat.le_of_ble_eq_true rfl), (Nat.le_of_ble_eq_true rfl)⟩) hP hD hS hA hR0 hn [] [0, 1, 2, 3, 4, 5, 6] rfl rfl (by decide) (by decide) (fun H locs hP hD hS hR => ?_)
    have hP : va_P D vwCl [(a_this, .inr (9, [.ref a_this_chosen, .ref a_this_factorial, .ref a_this_catalan, .ref a_this_parted, .ref a_this_closed, .int f_this_now, .ref a_this_of, .ref a_this_buffer, .ref a_this_made, .ref a_this_stackOne, .ref a_this_stackOther, .ref a_this_stackLong, .ref a_this_left, .int f_this_entryMany, .ref a_this_entryFamily, .ref a_this_entryOf, .ref a_this_entryRank])), (a_this_buffer, .inl (cI, 60, .inl c_this_buffer)), (a_this_left, .inl (cI, 4, .inl c_this_left)), (a_this_made, .inl (cI, 60, .inl c_this_made)), (a_this_of, .inl (cI, 4, .inl c_this_of)), (a_this_stackLong, .inl (cJ, 64, .inr (.inl c_this_stackLong))), (a_this_stackOne, .inl (cI, 64, .inl c_this_stackOne))] H := hP
    have hD : va_D A [(a_this, .inr (9, [.ref a_this_chosen, .ref a_this_factorial, .ref a_this_catalan, .ref a_this_parted, .ref a_this_closed, .int f_this_now, .ref a_this_of, .ref a_this_buffer, .ref a_this_made, .ref a_this_stackOne, .ref a_this_stackOther, .ref a_this_stackLong, .ref a_this_left, .int f_this_entryMany, .ref a_this_entryFamily, .ref a_this_entryOf, .ref a_this_entryRank])), (a_this_buffer, .inl (cI, 60, .inl c_this_buffer)), (a_this_left, .inl (cI, 4, .inl c_this_left)), (a_this_made, .inl (cI, 60, .inl c_this_made)), (a_this_of, .inl (cI, 4, .inl c_this_of)), (a_this_stackLong, .inl (cJ, 64, .inr (.inl c_this_stackLong))), (a_this_stackOne, .inl (cI, 64, .inl c_this_stackOne))] := hD
    refine lv_if_eq (tgt := 36) hx hb dX10_selectWords_21 (by decide) (fun hc2 => ?_) (fun hc2 => ?_)
    · have h := rk_if hc2 h
      exact B36  h _ _ hP hD hS _ (lv_sub hl [] rfl)
    · have h := rk_nif hc2 h
      refine lv_aload_n hx hb dX10_selectWords_24 rfl (lv_at hl 0 rfl) ?_
      refine lv_iconst (v := 2) hx hb dX10_selectWords_25 (by decide) ?_
      refine lv_iload_n hx hb dX10_selectWords_26 rfl (lv_at hl 1 rfl) ?_
      refine lv_iload_n hx hb dX10_selectWords_27 rfl (lv_at hl 2 rfl) ?_
      refine lv_iconst (v := 0) hx hb dX10_selectWords_28 (by decide) ?_
      refine lv_iconst (v := 0) hx hb dX10_selectWords_29 (by decide) ?_
      obtain ⟨r_30, hc_30, h⟩ := rk_bd h
      refine rk_i (wr := []) (va_runV (C := RX10) (As := [.int (2 : Int32), .int v_p1, .int v_p2, .int (0 : Int32), .int (0 : Int32)]) (rest := []) hF (mtX10_select l D cI cJ cO PL _ a_this a_this_chosen a_this_factorial a_this_catalan a_this_parted a_this_closed f_this_now a_this_of a_this_buffer a_this_made a_this_stackOne a_this_stackOther a_this_stackLong a_this_left f_this_entryMany a_this_entryFamily a_this_entryOf a_this_entryRank c_this_buffer c_this_left c_this_made c_this_of c_this_stackLong c_this_stackOne c_this_catalan c_this_chosen c_this_closed c_this_parted (2 : Int32) v_p1 v_p2 (0 : Int32) (0 : Int32) r_30 hc_30) (cwV 5 htc (rk_gV w_4_54 w_4_56 ws_35 w_1_7 w_4_57) rfl rfl rfl (by decide +kernel) ⟨(Nat.le_of_ble_eq_true rfl), (Nat.le_of_ble_eq_true rfl)⟩) (rk_preV (va_recv hV.1 hP (ci := 9) (q0 := 0) rfl rfl) (rk_preS hP hD hS hR hn hPL hnl hV [0, 1, 2, 3, 4, 5, 6] [(false, 0), (false, 1), (false, 2), (false, 3)] rfl (by decide) rfl (by decide))) rfl rfl hl.1 rfl (lv_room (Nat.le_of_ble_eq_true rfl)) dX10_selectWords_30 ⟨(Nat.le_of_ble_eq_true rfl), (Nat.le_of_ble_eq_true rfl)⟩) hP hD hS hA hR0 hn [0, 1, 2, 3, 4, 5, 6] [] rfl rfl (by decide) (by decide) (fun H locs hP hD hS hR => ?_)
      have hP : va_P D vwCl [(a_this, .inr (9, [.ref a_this_chosen, .ref a_this_factorial, .ref a_this_catalan, .ref a_this_parted, .ref a_this_closed, .int r_30.2.1, .ref a_this_of, .ref a_this_buffer, .ref a_this_made, .ref a_this_stackOne, .ref a_this_stackOther, .ref a_this_stackLong, .ref a_this_left, .int f_this_entryMany, .ref a_this_entryFamily, .ref a_this_entryOf, .ref a_this_entryRank])), (a_this_buffer, .inl (cI, 60, .inl r_30.2.2.1)), (a_this_left, .inl (cI, 4, .inl r_30.2.2.2.1)), (a_this_made, .inl (cI, 60, .inl r_30.2.2.2.2.1)), (a_this_of, .inl (cI, 4, .inl r_30.2.2.2.2.2.1)), (a_this_stackLong, .inl (cJ, 64, .inr (.inl r_30.2.2.2.2.2.2.1))), (a_this_stackOne, .inl (cI, 64, .inl r_30.2.2.2.2.2.2.2))] H := hP
      have hD : va_D A [(a_this, .inr (9, [.ref a_this_chosen, .ref a_this_factorial, .ref a_this_catalan, .ref a_this_parted, .ref a_this_closed, .int r_30.2.1, .ref a_this_of, .ref a_this_buffer, .ref a_this_made, .ref a_this_stackOne, .ref a_this_stackOther, .ref a_this_stackLong, .ref a_this_left, .int f_this_entryMany, .ref a_this_entryFamily, .ref a_this_entryOf, .ref a_this_entryRank])), (a_this_buffer, .inl (cI, 60, .inl r_30.2.2.1)), (a_this_left, .inl (cI, 4, .inl r_30.2.2.2.1)), (a_this_made, .inl (cI, 60, .inl r_30.2.2.2.2.1)), (a_this_of, .inl (cI, 4, .inl r_30.2.2.2.2.2.1)), (a_this_stackLong, .inl (cJ, 64, .inr (.inl r_30.2.2.2.2.2.2.1))), (a_this_stackOne, .inl (cI, 64, .inl r_30.2.2.2.2.2.2.2))] := hD
      refine lv_goto (tgt := 37) hx hb dX10_selectWords_33 (by decide) ?_
      exact hret (r_30.1, r_30.2.1, r_30.2.2.1, r_30.2.2.2.1, r_30.2.2.2.2.1, r_30.2.2.2.2.2.1, r_30.2.2.2.2.2.2.1, r_30.2.2.2.2.2.2.2) _ _ _ _ h dX10_selectWords_37 hP hD hS
set_option maxHeartbeats 4000000 in
set_option maxRecDepth 100000 in
theorem mtX10_selectTrees (l : Launch) (D : va_G) (cI cJ cO : ClassId) (PL : va_W) (sz : Nat) (a_this : Nat) (a_this_chosen : Nat) (a_this_factorial : Nat) (a_this_catalan : Nat) (a_this_parted : Nat) (a_this_closed : Nat) (f_this_now : Int32) (a_this_of : Nat) (a_this_buffer : Nat) (a_this_made : Nat) (a_this_stackOne : Nat) (a_this_stackOther : Nat) (a_this_stackLong : Nat) (a_this_left : Nat) (f_this_entryMany : Int32) (a_this_entryFamily : Nat) (a_this_entryOf : Nat) (a_this_entryRank : Nat) (c_this_buffer : Nat → Int32) (c_this_left : Nat → Int32) (c_this_made : Nat → Int32) (c_this_of : Nat → Int32) (c_this_stackLong : Nat → Int64) (c_this_stackOne : Nat → Int32) (c_this_catalan : Nat → Int64) (c_this_chosen : Nat → Int64) (c_this_closed : Nat → Int64) (c_this_parted : Nat → Int64) (v_p1 : Int32) (r0 : Int32 × Int32 × (Nat → Int32) × (Nat → Int32) × (Nat → Int32) × (Nat → Int32) × (Nat → Int64) × (Nat → Int32)) (h : fX10_selectTrees f_this_now c_this_buffer c_this_left c_this_made c_this_of c_this_stackLong c_this_stackOne c_this_catalan c_this_chosen c_this_closed c_this_parted v_p1 = some r0) : Met l yX10_selectTrees (rk_w yX10_selectTrees cX10_selectTrees 2 (some .int)) rmX10_selectTrees (va_Pc [.ref a_this, .int v_p1] (rk_B D (rk_TY cI cJ cO) [(a_this, .inr (9, [.ref a_this_chosen, .ref a_this_factorial, .ref a_this_catalan, .ref a_this_parted, .ref a_this_closed, .int f_this_now, .ref a_this_of, .ref a_this_buffer, .ref a_this_made, .ref a_this_stackOne, .ref a_this_stackOther, .ref a_this_stackLong, .ref a_this_left, .int f_this_entryMany, .ref a_this_entryFamily, .ref a_this_entryOf, .ref a_this_entryRank])), (a_this_buffer, .inl (cI, 60, .inl c_this_buffer)), (a_this_left, .inl (cI, 4, .inl c_this_left)), (a_this_made, .inl (cI, 60, .inl c_this_made)), (a_this_of, .inl (cI, 4, .inl c_this_of)), (a_this_stackLong, .inl (cJ, 64, .inr (.inl c_this_stackLong))), (a_this_stackOne, .inl (cI, 64, .inl c_this_stackOne))] [(a_this_catalan, .inl (cJ, 31, .inr (.inl c_this_catalan))), (a_this_chosen, .inl (cJ, 3721, .inr (.inl c_this_chosen))), (a_this_closed, .inl (cJ, 1722, .inr (.inl c_this_closed))), (a_this_parted, .inl (cJ, 3721, .inr (.inl c_this_parted)))] PL sz)) (rk_Qi r0.1 D [(a_this, .inr (9, [.ref a_this_chosen, .ref a_this_factorial, .ref a_this_catalan, .ref a_this_parted, .ref a_this_closed, .int r0.2.1, .ref a_this_of, .ref a_this_buffer, .ref a_this_made, .ref a_this_stackOne, .ref a_this_stackOther, .ref a_this_stackLong, .ref a_this_left, .int f_this_entryMany, .ref a_this_entryFamily, .ref a_this_entryOf, .ref a_this_entryRank])), (a_this_buffer, .inl (cI, 60, .inl r0.2.2.1)), (a_this_left, .inl (cI, 4, .inl r0.2.2.2.1)), (a_this_made, .inl (cI, 60, .inl r0.2.2.2.2.1)), (a_this_of, .inl (cI, 4, .inl r0.2.2.2.2.2.1)), (a_this_stackLong, .inl (cJ, 64, .inr (.inl r0.2.2.2.2.2.2.1))), (a_this_stackOne, .inl (cI, 64, .inl r0.2.2.2.2.2.2.2))] [(a_this, .inr (9, [.ref a_this_chosen, .ref a_this_factorial, .ref a_this_catalan, .ref a_this_parted, .ref a_this_closed, .int f_this_now, .ref a_this_of, .ref a_this_buffer, .ref a_this_made, .ref a_this_stackOne, .ref a_this_stackOther, .ref a_this_stackLong, .ref a_this_left, .int f_this_entryMany, .ref a_this_entryFamily, .ref a_this_entryOf, .ref a_this_entryRank])), (a_this_buffer, .inl (cI, 60, .inl c_this_buffer)), (a_this_left, .inl (cI, 4, .inl c_this_left)), (a_this_made, .inl (cI, 60, .inl c_this_made)), (a_this_of, .inl (cI, 4, .inl c_this_of)), (a_this_stackLong, .inl (cJ, 64, .inr (.inl c_this_stackLong))), (a_this_stackOne, .inl (cI, 64, .inl c_this_stackOne))] sz) 0 0 (va_A [(a_this, .inr (9, [.ref a_this_chosen, .ref a_this_factorial, .ref a_this_catalan, .ref a_this_parted, .ref a_this_closed, .int f_this_now, .ref a_this_of, .ref a_this_buffer, .ref a_this_made, .ref a_this_stackOne, .ref a_this_stackOther, .ref a_this_stackLong, .ref a_this_left, .int f_this_entryMany, .ref a_this_entryFamily, .ref a_this_entryOf, .ref a_this_entryRank])), (a_this_buffer, .inl (cI, 60, .inl c_this_buffer)), (a_this_left, .inl (cI, 4, .inl c_this_left)), (a_this_made, .inl (cI, 60, .inl c_this_made)), (a_this_of, .inl (cI, 4, .inl c_this_of)), (a_this_stackLong, .inl (cJ, 64, .inr (.inl c_this_stackLong))), (a_this_stackOne, .inl (cI, 64, .inl c_this_stackOne))] sz) := by
  refine rk_meti h (fun x : Int32 × Int32 × (Nat → Int32) × (Nat → Int32) × (Nat → Int32) × (Nat → Int32) × (Nat → Int64) × (Nat → Int32) => x.1) (fun x => [(a_this, .inr (9, [.ref a_this_chosen, .ref a_this_factorial, .ref a_this_catalan, .ref a_this_parted, .ref a_this_closed, .int x.2.1, .ref a_this_of, .ref a_this_buffer, .ref a_this_made, .ref a_this_stackOne, .ref a_this_stackOther, .ref a_this_stackLong, .ref a_this_left, .int f_this_entryMany, .ref a_this_entryFamily, .ref a_this_entryOf, .ref a_this_entryRank])), (a_this_buffer, .inl (cI, 60, .inl x.2.2.1)), (a_this_left, .inl (cI, 4, .inl x.2.2.2.1)), (a_this_made, .inl (cI, 60, .inl x.2.2.2.2.1)), (a_this_of, .inl (cI, 4, .inl x.2.2.2.2.2.1)), (a_this_stackLong, .inl (cJ, 64, .inr (.inl x.2.2.2.2.2.2.1))), (a_this_stackOne, .inl (cI, 64, .inl x.2.2.2.2.2.2.2))]) (by decide) (Nat.le_of_ble_eq_true rfl) ?_
  intro p e s m args below meth c A ls Q hret hname hF hP hD hA hV hR0 hn hPL hnl hl h hS
  have hx := hF.1
  have hb := hF.2.1
  have hml := hF.2.2.1
  have hown : s.vm.findClass RX10 = some m.cls := hF.2.2.2.1
  have htc := hF.2.2.2.2
  have hP : va_P D vwCl [(a_this, .inr (9, [.ref a_this_chosen, .ref a_this_factorial, .ref a_this_catalan, .ref a_this_parted, .ref a_this_closed, .int f_this_now, .ref a_this_of, .ref a_this_buffer, .ref a_this_made, .ref a_this_stackOne, .ref a_this_stackOther, .ref a_this_stackLong, .ref a_this_left, .int f_this_entryMany, .ref a_this_entryFamily, .ref a_this_entryOf, .ref a_this_entryRank])), (a_this_buffer, .inl (cI, 60, .inl c_this_buffer)), (a_this_left, .inl (cI, 4, .inl c_this_left)), (a_this_made, .inl (cI, 60, .inl c_this_made)), (a_this_of, .inl (cI, 4, .inl c_this_of)), (a_this_stackLong, .inl (cJ, 64, .inr (.inl c_this_stackLong))), (a_this_stackOne, .inl (cI, 64, .inl c_this_stackOne))] s.heap := hP
  have hD : va_D A [(a_this, .inr (9, [.ref a_this_chosen, .ref a_this_factorial, .ref a_this_catalan, .ref a_this_parted, .ref a_this_closed, .int f_this_now, .ref a_this_of, .ref a_this_buffer, .ref a_this_made, .ref a_this_stackOne, .ref a_this_stackOther, .ref a_this_stackLong, .ref a_this_left, .int f_this_entryMany, .ref a_this_entryFamily, .ref a_this_entryOf, .ref a_this_entryRank])), (a_this_buffer, .inl (cI, 60, .inl c_this_buffer)), (a_this_left, .inl (cI, 4, .inl c_this_left)), (a_this_made, .inl (cI, 60, .inl c_this_made)), (a_this_of, .inl (cI, 4, .inl c_this_of)), (a_this_stackLong, .inl (cJ, 64, .inr (.inl c_this_stackLong))), (a_this_stackOne, .inl (cI, 64, .inl c_this_stackOne))] := hD
  have hR0 : va_P D vwCl [(a_this_catalan, .inl (cJ, 31, .inr (.inl c_this_catalan))), (a_this_chosen, .inl (cJ, 3721, .inr (.inl c_this_chosen))), (a_this_closed, .inl (cJ, 1722, .inr (.inl c_this_closed))), (a_this_parted, .inl (cJ, 3721, .inr (.inl c_this_parted)))] s.heap := hR0
  have hR := hR0
  have hl : lv_has ls 2 [(0, .ref a_this), (1, .int v_p1)] := hl
  unfold fX10_selectTrees at h
  refine lv_iload_n hx hb dX10_selectTrees_0 rfl (lv_at hl 1 rfl) ?_
  refine lv_i2l hx hb dX10_selectTrees_1 rfl ?_
  refine lv_lconst (v := 1) hx hb dX10_selectTrees_2 (by decide) ?_
  refine lv_ldc2 (v := (30 : Int64)) hx hb hown (htc _ w_4_135) dX10_selectTrees_3 ?_
  obtain ⟨r_6, hc_6, h⟩ := rk_bd h
  refine rk_i (wr := [(a_this, .inr (9, [.ref a_this_chosen, .ref a_this_factorial, .ref a_this_catalan, .ref a_this_parted, .ref a_this_closed, .int f_this_now, .ref a_this_of, .ref a_this_buffer, .ref a_this_made, .ref a_this_stackOne, .ref a_this_stackOther, .ref a_this_stackLong, .ref a_this_left, .int f_this_entryMany, .ref a_this_entryFamily, .ref a_this_entryOf, .ref a_this_entryRank])), (a_this_buffer, .inl (cI, 60, .inl c_this_buffer)), (a_this_left, .inl (cI, 4, .inl c_this_left)), (a_this_made, .inl (cI, 60, .inl c_this_made)), (a_this_of, .inl (cI, 4, .inl c_this_of)), (a_this_stackLong, .inl (cJ, 64, .inr (.inl c_this_stackLong))), (a_this_stackOne, .inl (cI, 64, .inl c_this_stackOne))]) (va_runS (As := [.long v_p1.toInt64, .long (1 : Int64), .long (30 : Int64)]) (rest := []) hF (mtX10_within l D cI cJ cO PL _ v_p1.toInt64 (1 : Int64) (30 : Int64) r_6 hc_6) (va_cwS 3 htc (rk_gVS w_4_50 w_4_51 w_1_7 w_4_52) rfl rfl rfl (by decide +kernel) ⟨(Nat.le_of_ble_eq_true rfl), (Nat.le_of_ble_eq_true rfl)⟩) (rk_preS hP hD hS hR hn hPL hnl hV [] [] rfl (by decide) rfl (by decide)) rfl rfl hl.1 rfl (lv_room (Nat.le_of_ble_eq_true rfl)) dX10_selectTrees_6 ⟨(Nat.le_of_ble_eq_true rfl), (Nat.le_of_ble_eq_true rfl)⟩) hP hD hS hA hR0 hn [] [0, 1, 2, 3, 4, 5, 6] rfl rfl (by decide) (by decide) (fun H locs hP hD hS hR => ?_)
  have hP : va_P D vwCl [(a_this, .inr (9, [.ref a_this_chosen, .ref a_this_factorial, .ref a_this_catalan, .ref a_this_parted, .ref a_this_closed, .int f_this_now, .ref a_this_of, .ref a_this_buffer, .ref a_this_made, .ref a_this_stackOne, .ref a_this_stackOther, .ref a_this_stackLong, .ref a_this_left, .int f_this_entryMany, .ref a_this_entryFamily, .ref a_this_entryOf, .ref a_this_entryRank])), (a_this_buffer, .inl (cI, 60, .inl c_this_buffer)), (a_this_left, .inl (cI, 4, .inl c_this_left)), (a_this_made, .inl (cI, 60, .inl c_this_made)), (a_this_of, .inl (cI, 4, .inl c_this_of)), (a_this_stackLong, .inl (cJ, 64, .inr (.inl c_this_stackLong))), (a_this_stackOne, .inl (cI, 64, .inl c_this_stackOne))] H := hP
  have hD : va_D A [(a_this, .inr (9, [.ref a_this_chosen, .ref a_this_factorial, .ref a_this_catalan, .ref a_this_parted, .ref a_this_closed, .int f_this_now, .ref a_this_of, .ref a_this_buffer, .ref a_this_made, .ref a_this_stackOne, .ref a_this_stackOther, .ref a_this_stackLong, .ref a_this_left, .int f_this_entryMany, .ref a_this_entryFamily, .ref a_this_entryOf, .ref a_this_entryRank])), (a_this_buffer, .inl (cI, 60, .inl c_this_buffer)), (a_this_left, .inl (cI, 4, .inl c_this_left)), (a_this_made, .inl (cI, 60, .inl c_this_made)), (a_this_of, .inl (cI, 4, .inl c_this_of)), (a_this_stackLong, .inl (cJ, 64, .inr (.inl c_this_stackLong))), (a_this_stackOne, .inl (cI, 64, .inl c_this_stackOne))] := hD
  refine lv_if_eq (tgt := 24) hx hb dX10_selectTrees_9 (by decide) (fun hc1 => ?_) (fun hc1 => ?_)
  · have h := rk_if hc1 h
    refine lv_iconst (v := (-1)) hx hb dX10_selectTrees_24 (by decide) ?_
    exact hret ((-1 : Int32), f_this_now, c_this_buffer, c_this_left, c_this_made, c_this_of, c_this_stackLong, c_this_stackOne) _ _ _ _ h dX10_selectTrees_25 hP hD hS
  · have h := rk_nif hc1 h
    refine lv_aload_n hx hb dX10_selectTrees_12 rfl (lv_at hl 0 rfl) ?_
    refine lv_iconst (v := 3) hx hb dX10_selectTrees_13 (by decide) ?_
    refine lv_iload_n hx hb dX10_selectTrees_14 rfl (lv_at hl 1 rfl) ?_
    refine lv_iconst (v := 0) hx hb dX10_selectTrees_15 (by decide) ?_
    refine lv_iconst (v := 0) hx hb dX10_selectTrees_16 (by decide) ?_
    refine lv_iconst (v := 0) hx hb dX10_selectTrees_17 (by decide) ?_
    obtain ⟨r_18, hc_18, h⟩ := rk_bd h
    refine rk_i (wr := []) (va_runV (C := RX10) (As := [.int (3 : Int32), .int v_p1, .int (0 : Int32), .int (0 : Int32), .int (0 : Int32)]) (rest := []) hF (mtX10_select l D cI cJ cO PL _ a_this a_this_chosen a_this_factorial a_this_catalan a_this_parted a_this_closed f_this_now a_this_of a_this_buffer a_this_made a_this_stackOne a_this_stackOther a_this_stackLong a_this_left f_this_entryMany a_this_entryFamily a_this_entryOf a_this_entryRank c_this_buffer c_this_left c_this_made c_this_of c_this_stackLong c_this_stackOne c_this_catalan c_this_chosen c_this_closed c_this_parted (3 : Int32) v_p1 (0 : Int32) (0 : Int32) (0 : Int32) r_18 hc_18) (cwV 5 htc (rk_gV w_4_54 w_4_56 ws_35 w_1_7 w_4_57) rfl rfl rfl (by decide +kernel) ⟨(Nat.le_of_ble_eq_true rfl), (Nat.le_of_ble_eq_true rfl)⟩) (rk_preV (va_recv hV.1 hP (ci := 9) (q0 := 0) rfl rfl) (rk_preS hP hD hS hR hn hPL hnl hV [0, 1, 2, 3, 4, 5, 6] [(false, 0), (false, 1), (false, 2), (false, 3)] rfl (by decide) rfl (by decide))) rfl rfl hl.1 rfl (lv_room (Nat.le_of_ble_eq_true rfl)) dX10_selectTrees_18 ⟨(Nat.le_of_ble_eq_true rfl), (Nat.le_of_ble_eq_true rfl)⟩) hP hD hS hA hR0 hn [0, 1, 2, 3, 4, 5, 6] [] rfl rfl (by decide) (by decide) (fun H locs hP hD hS hR => ?_)
    have hP : va_P D vwCl [(a_this, .inr (9, [.ref a_this_chosen, .ref a_this_factorial, .ref a_this_catalan, .ref a_this_parted, .ref a_this_closed, .int r_18.2.1, .ref a_this_of, .ref a_this_buffer, .ref a_this_made, .ref a_this_stackOne, .ref a_this_stackOther, .ref a_this_stackLong, .ref a_this_left, .int f_this_entryMany, .ref a_this_entryFamily, .ref a_this_entryOf, .ref a_this_entryRank])), (a_this_buffer, .inl (cI, 60, .inl r_18.2.2.1)), (a_this_left, .inl (cI, 4, .inl r_18.2.2.2.1)), (a_this_made, .inl (cI, 60, .inl r_18.2.2.2.2.1)), (a_this_of, .inl (cI, 4, .inl r_18.2.2.2.2.2.1)), (a_this_stackLong, .inl (cJ, 64, .inr (.inl r_18.2.2.2.2.2.2.1))), (a_this_stackOne, .inl (cI, 64, .inl r_18.2.2.2.2.2.2.2))] H := hP
    have hD : va_D A [(a_this, .inr (9, [.ref a_this_chosen, .ref a_this_factorial, .ref a_this_catalan, .ref a_this_parted, .ref a_this_closed, .int r_18.2.1, .ref a_this_of, .ref a_this_buffer, .ref a_this_made, .ref a_this_stackOne, .ref a_this_stackOther, .ref a_this_stackLong, .ref a_this_left, .int f_this_entryMany, .ref a_this_entryFamily, .ref a_this_entryOf, .ref a_this_entryRank])), (a_this_buffer, .inl (cI, 60, .inl r_18.2.2.1)), (a_this_left, .inl (cI, 4, .inl r_18.2.2.2.1)), (a_this_made, .inl (cI, 60, .inl r_18.2.2.2.2.1)), (a_this_of, .inl (cI, 4, .inl r_18.2.2.2.2.2.1)), (a_this_stackLong, .inl (cJ, 64, .inr (.inl r_18.2.2.2.2.2.2.1))), (a_this_stackOne, .inl (cI, 64, .inl r_18.2.2.2.2.2.2.2))] := hD
    refine lv_goto (tgt := 25) hx hb dX10_selectTrees_21 (by decide) ?_
    exact hret (r_18.1, r_18.2.1, r_18.2.2.1, r_18.2.2.2.1, r_18.2.2.2.2.1, r_18.2.2.2.2.2.1, r_18.2.2.2.2.2.2.1, r_18.2.2.2.2.2.2.2) _ _ _ _ h dX10_selectTrees_25 hP hD hS
set_option maxHeartbeats 4000000 in
set_option maxRecDepth 100000 in
theorem mtX10_selectPartitions (l : Launch) (D : va_G) (cI cJ cO : ClassId) (PL : va_W) (sz : Nat) (a_this : Nat) (a_this_chosen : Nat) (a_this_factorial : Nat) (a_this_catalan : Nat) (a_this_parted : Nat) (a_this_closed : Nat) (f_this_now : Int32) (a_this_of : Nat) (a_this_buffer : Nat) (a_this_made : Nat) (a_this_stackOne : Nat) (a_this_stackOther : Nat) (a_this_stackLong : Nat) (a_this_left : Nat) (f_this_entryMany : Int32) (a_this_entryFamily : Nat) (a_this_entryOf : Nat) (a_this_entryRank : Nat) (c_this_buffer : Nat → Int32) (c_this_left : Nat → Int32) (c_this_made : Nat → Int32) (c_this_of : Nat → Int32) (c_this_stackLong : Nat → Int64) (c_this_stackOne : Nat → Int32) (c_this_catalan : Nat → Int64) (c_this_chosen : Nat → Int64) (c_this_closed : Nat → Int64) (c_this_parted : Nat → Int64) (v_p1 : Int32) (v_p2 : Int32) (r0 : Int32 × Int32 × (Nat → Int32) × (Nat → Int32) × (Nat → Int32) × (Nat → Int32) × (Nat → Int64) × (Nat → Int32)) (h : fX10_selectPartitions f_this_now c_this_buffer c_this_left c_this_made c_this_of c_this_stackLong c_this_stackOne c_this_catalan c_this_chosen c_this_closed c_this_parted v_p1 v_p2 = some r0) : Met l yX10_selectPartitions (rk_w yX10_selectPartitions cX10_selectPartitions 3 (some .int)) rmX10_selectPartitions (va_Pc [.ref a_this, .int v_p1, .int v_p2] (rk_B D (rk_TY cI cJ cO) [(a_this, .inr (9, [.ref a_this_chosen, .ref a_this_factorial, .ref a_this_catalan, .ref a_this_parted, .ref a_this_closed, .int f_this_now, .ref a_this_of, .ref a_this_buffer, .ref a_this_made, .ref a_this_stackOne, .ref a_this_stackOther, .ref a_this_stackLong, .ref a_this_left, .int f_this_entryMany, .ref a_this_entryFamily, .ref a_this_entryOf, .ref a_this_entryRank])), (a_this_buffer, .inl (cI, 60, .inl c_this_buffer)), (a_this_left, .inl (cI, 4, .inl c_this_left)), (a_this_made, .inl (cI, 60, .inl c_this_made)), (a_this_of, .inl (cI, 4, .inl c_this_of)), (a_this_stackLong, .inl (cJ, 64, .inr (.inl c_this_stackLong))), (a_this_stackOne, .inl (cI, 64, .inl c_this_stackOne))] [(a_this_catalan, .inl (cJ, 31, .inr (.inl c_this_catalan))), (a_this_chosen, .inl (cJ, 3721, .inr (.inl c_this_chosen))), (a_this_closed, .inl (cJ, 1722, .inr (.inl c_this_closed))), (a_this_parted, .inl (cJ, 3721, .inr (.inl c_this_parted)))] PL sz)) (rk_Qi r0.1 D [(a_this, .inr (9, [.ref a_this_chosen, .ref a_this_factorial, .ref a_this_catalan, .ref a_this_parted, .ref a_this_closed, .int r0.2.1, .ref a_this_of, .ref a_this_buffer, .ref a_this_made, .ref a_this_stackOne, .ref a_this_stackOther, .ref a_this_stackLong, .ref a_this_left, .int f_this_entryMany, .ref a_this_entryFamily, .ref a_this_entryOf, .ref a_this_entryRank])), (a_this_buffer, .inl (cI, 60, .inl r0.2.2.1)), (a_this_left, .inl (cI, 4, .inl r0.2.2.2.1)), (a_this_made, .inl (cI, 60, .inl r0.2.2.2.2.1)), (a_this_of, .inl (cI, 4, .inl r0.2.2.2.2.2.1)), (a_this_stackLong, .inl (cJ, 64, .inr (.inl r0.2.2.2.2.2.2.1))), (a_this_stackOne, .inl (cI, 64, .inl r0.2.2.2.2.2.2.2))] [(a_this, .inr (9, [.ref a_this_chosen, .ref a_this_factorial, .ref a_this_catalan, .ref a_this_parted, .ref a_this_closed, .int f_this_now, .ref a_this_of, .ref a_this_buffer, .ref a_this_made, .ref a_this_stackOne, .ref a_this_stackOther, .ref a_this_stackLong, .ref a_this_left, .int f_this_entryMany, .ref a_this_entryFamily, .ref a_this_entryOf, .ref a_this_entryRank])), (a_this_buffer, .inl (cI, 60, .inl c_this_buffer)), (a_this_left, .inl (cI, 4, .inl c_this_left)), (a_this_made, .inl (cI, 60, .inl c_this_made)), (a_this_of, .inl (cI, 4, .inl c_this_of)), (a_this_stackLong, .inl (cJ, 64, .inr (.inl c_this_stackLong))), (a_this_stackOne, .inl (cI, 64, .inl c_this_stackOne))] sz) 0 0 (va_A [(a_this, .inr (9, [.ref a_this_chosen, .ref a_this_factorial, .ref a_this_catalan, .ref a_this_parted, .ref a_this_closed, .int f_this_now, .ref a_this_of, .ref a_this_buffer, .ref a_this_made, .ref a_this_stackOne, .ref a_this_stackOther, .ref a_this_stackLong, .ref a_this_left, .int f_this_entryMany, .ref a_this_entryFamily, .ref a_this_entryOf, .ref a_this_entryRank])), (a_this_buffer, .inl (cI, 60, .inl c_this_buffer)), (a_this_left, .inl (cI, 4, .inl c_this_left)), (a_this_made, .inl (cI, 60, .inl c_this_made)), (a_this_of, .inl (cI, 4, .inl c_this_of)), (a_this_stackLong, .inl (cJ, 64, .inr (.inl c_this_stackLong))), (a_this_stackOne, .inl (cI, 64, .inl c_this_stackOne))] sz) := by
  refine rk_meti h (fun x : Int32 × Int32 × (Nat → Int32) × (Nat → Int32) × (Nat → Int32) × (Nat → Int32) × (Nat → Int64) × (Nat → Int32) => x.1) (fun x => [(a_this, .inr (9, [.ref a_this_chosen, .ref a_this_factorial, .ref a_this_catalan, .ref a_this_parted, .ref a_this_closed, .int x.2.1, .ref a_this_of, .ref a_this_buffer, .ref a_this_made, .ref a_this_stackOne, .ref a_this_stackOther, .ref a_this_stackLong, .ref a_this_left, .int f_this_entryMany, .ref a_this_entryFamily, .ref a_this_entryOf, .ref a_this_entryRank])), (a_this_buffer, .inl (cI, 60, .inl x.2.2.1)), (a_this_left, .inl (cI, 4, .inl x.2.2.2.1)), (a_this_made, .inl (cI, 60, .inl x.2.2.2.2.1)), (a_this_of, .inl (cI, 4, .inl x.2.2.2.2.2.1)), (a_this_stackLong, .inl (cJ, 64, .inr (.inl x.2.2.2.2.2.2.1))), (a_this_stackOne, .inl (cI, 64, .inl x.2.2.2.2.2.2.2))]) (by decide) (Nat.le_of_ble_eq_true rfl) ?_
  intro p e s m args below meth c A ls Q hret hname hF hP hD hA hV hR0 hn hPL hnl hl h hS
  have hx := hF.1
  have hb := hF.2.1
  have hml := hF.2.2.1
  have hown : s.vm.findClass RX10 = some m.cls := hF.2.2.2.1
  have htc := hF.2.2.2.2
  have hP : va_P D vwCl [(a_this, .inr (9, [.ref a_this_chosen, .ref a_this_factorial, .ref a_this_catalan, .ref a_this_parted, .ref a_this_closed, .int f_this_now, .ref a_this_of, .ref a_this_buffer, .ref a_this_made, .ref a_this_stackOne, .ref a_this_stackOther, .ref a_this_stackLong, .ref a_this_left, .int f_this_entryMany, .ref a_this_entryFamily, .ref a_this_entryOf, .ref a_this_entryRank])), (a_this_buffer, .inl (cI, 60, .inl c_this_buffer)), (a_this_left, .inl (cI, 4, .inl c_this_left)), (a_this_made, .inl (cI, 60, .inl c_this_made)), (a_this_of, .inl (cI, 4, .inl c_this_of)), (a_this_stackLong, .inl (cJ, 64, .inr (.inl c_this_stackLong))), (a_this_stackOne, .inl (cI, 64, .inl c_this_stackOne))] s.heap := hP
  have hD : va_D A [(a_this, .inr (9, [.ref a_this_chosen, .ref a_this_factorial, .ref a_this_catalan, .ref a_this_parted, .ref a_this_closed, .int f_this_now, .ref a_this_of, .ref a_this_buffer, .ref a_this_made, .ref a_this_stackOne, .ref a_this_stackOther, .ref a_this_stackLong, .ref a_this_left, .int f_this_entryMany, .ref a_this_entryFamily, .ref a_this_entryOf, .ref a_this_entryRank])), (a_this_buffer, .inl (cI, 60, .inl c_this_buffer)), (a_this_left, .inl (cI, 4, .inl c_this_left)), (a_this_made, .inl (cI, 60, .inl c_this_made)), (a_this_of, .inl (cI, 4, .inl c_this_of)), (a_this_stackLong, .inl (cJ, 64, .inr (.inl c_this_stackLong))), (a_this_stackOne, .inl (cI, 64, .inl c_this_stackOne))] := hD
  have hR0 : va_P D vwCl [(a_this_catalan, .inl (cJ, 31, .inr (.inl c_this_catalan))), (a_this_chosen, .inl (cJ, 3721, .inr (.inl c_this_chosen))), (a_this_closed, .inl (cJ, 1722, .inr (.inl c_this_closed))), (a_this_parted, .inl (cJ, 3721, .inr (.inl c_this_parted)))] s.heap := hR0
  have hR := hR0
  have hl : lv_has ls 3 [(0, .ref a_this), (1, .int v_p1), (2, .int v_p2)] := hl
  unfold fX10_selectPartitions at h
  refine lv_iload_n hx hb dX10_selectPartitions_0 rfl (lv_at hl 1 rfl) ?_
  refine lv_i2l hx hb dX10_selectPartitions_1 rfl ?_
  refine lv_lconst (v := 1) hx hb dX10_selectPartitions_2 (by decide) ?_
  refine lv_ldc2 (v := (60 : Int64)) hx hb hown (htc _ w_4_49) dX10_selectPartitions_3 ?_
  obtain ⟨r_6, hc_6, h⟩ := rk_bd h
  refine rk_i (wr := [(a_this, .inr (9, [.ref a_this_chosen, .ref a_this_factorial, .ref a_this_catalan, .ref a_this_parted, .ref a_this_closed, .int f_this_now, .ref a_this_of, .ref a_this_buffer, .ref a_this_made, .ref a_this_stackOne, .ref a_this_stackOther, .ref a_this_stackLong, .ref a_this_left, .int f_this_entryMany, .ref a_this_entryFamily, .ref a_this_entryOf, .ref a_this_entryRank])), (a_this_buffer, .inl (cI, 60, .inl c_this_buffer)), (a_this_left, .inl (cI, 4, .inl c_this_left)), (a_this_made, .inl (cI, 60, .inl c_this_made)), (a_this_of, .inl (cI, 4, .inl c_this_of)), (a_this_stackLong, .inl (cJ, 64, .inr (.inl c_this_stackLong))), (a_this_stackOne, .inl (cI, 64, .inl c_this_stackOne))]) (va_runS (As := [.long v_p1.toInt64, .long (1 : Int64), .long (60 : Int64)]) (rest := []) hF (mtX10_within l D cI cJ cO PL _ v_p1.toInt64 (1 : Int64) (60 : Int64) r_6 hc_6) (va_cwS 3 htc (rk_gVS w_4_50 w_4_51 w_1_7 w_4_52) rfl rfl rfl (by decide +kernel) ⟨(Nat.le_of_ble_eq_true rfl), (Nat.le_of_ble_eq_true rfl)⟩) (rk_preS hP hD hS hR hn hPL hnl hV [] [] rfl (by decide) rfl (by decide)) rfl rfl hl.1 rfl (lv_room (Nat.le_of_ble_eq_true rfl)) dX10_selectPartitions_6 ⟨(Nat.le_of_ble_eq_true rfl), (Nat.le_of_ble_eq_true rfl)⟩) hP hD hS hA hR0 hn [] [0, 1, 2, 3, 4, 5, 6] rfl rfl (by decide) (by decide) (fun H locs hP hD hS hR => ?_)
  have hP : va_P D vwCl [(a_this, .inr (9, [.ref a_this_chosen, .ref a_this_factorial, .ref a_this_catalan, .ref a_this_parted, .ref a_this_closed, .int f_this_now, .ref a_this_of, .ref a_this_buffer, .ref a_this_made, .ref a_this_stackOne, .ref a_this_stackOther, .ref a_this_stackLong, .ref a_this_left, .int f_this_entryMany, .ref a_this_entryFamily, .ref a_this_entryOf, .ref a_this_entryRank])), (a_this_buffer, .inl (cI, 60, .inl c_this_buffer)), (a_this_left, .inl (cI, 4, .inl c_this_left)), (a_this_made, .inl (cI, 60, .inl c_this_made)), (a_this_of, .inl (cI, 4, .inl c_this_of)), (a_this_stackLong, .inl (cJ, 64, .inr (.inl c_this_stackLong))), (a_this_stackOne, .inl (cI, 64, .inl c_this_stackOne))] H := hP
  have hD : va_D A [(a_this, .inr (9, [.ref a_this_chosen, .ref a_this_factorial, .ref a_this_catalan, .ref a_this_parted, .ref a_this_closed, .int f_this_now, .ref a_this_of, .ref a_this_buffer, .ref a_this_made, .ref a_this_stackOne, .ref a_this_stackOther, .ref a_this_stackLong, .ref a_this_left, .int f_this_entryMany, .ref a_this_entryFamily, .ref a_this_entryOf, .ref a_this_entryRank])), (a_this_buffer, .inl (cI, 60, .inl c_this_buffer)), (a_this_left, .inl (cI, 4, .inl c_this_left)), (a_this_made, .inl (cI, 60, .inl c_this_made)), (a_this_of, .inl (cI, 4, .inl c_this_of)), (a_this_stackLong, .inl (cJ, 64, .inr (.inl c_this_stackLong))), (a_this_stackOne, .inl (cI, 64, .inl c_this_stackOne))] := hD
  have B35 : fX10_selectPartitions_B35 f_this_now c_this_buffer c_this_left c_this_made c_this_of c_this_stackLong c_this_stackOne = some r0 → ∀ (H : Heap) (locs : List Loc), va_P D vwCl [(a_this, .inr (9, [.ref a_this_chosen, .ref a_this_factorial, .ref a_this_catalan, .ref a_this_parted, .ref a_this_closed, .int f_this_now, .ref a_this_of, .ref a_this_buffer, .ref a_this_made, .ref a_this_stackOne, .ref a_this_stackOther, .ref a_this_stackLong, .ref a_this_left, .int f_this_entryMany, .ref a_this_entryFamily, .ref a_this_entryOf, .ref a_this_entryRank])), (a_this_buffer, .inl (cI, 60, .inl c_this_buffer)), (a_this_left, .inl (cI, 4, .inl c_this_left)), (a_this_made, .inl (cI, 60, .inl c_this_made)), (a_this_of, .inl (cI, 4, .inl c_this_of)), (a_this_stackLong, .inl (cJ, 64, .inr (.inl c_this_stackLong))), (a_this_stackOne, .inl (cI, 64, .inl c_this_stackOne))] H → va_D A [(a_this, .inr (9, [.ref a_this_chosen, .ref a_this_factorial, .ref a_this_catalan, .ref a_this_parted, .ref a_this_closed, .int f_this_now, .ref a_this_of, .ref a_this_buffer, .ref a_this_made, .ref a_this_stackOne, .ref a_this_stackOther, .ref a_this_stackLong, .ref a_this_left, .int f_this_entryMany, .ref a_this_entryFamily, .ref a_this_entryOf, .ref a_this_entryRank])), (a_this_buffer, .inl (cI, 60, .inl c_this_buffer)), (a_this_left, .inl (cI, 4, .inl c_this_left)), (a_this_made, .inl (cI, 60, .inl c_this_made)), (a_this_of, .inl (cI, 4, .inl c_this_of)), (a_this_stackLong, .inl (cJ, 64, .inr (.inl c_this_stackLong))), (a_this_stackOne, .inl (cI, 64, .inl c_this_stackOne))] → va_S A s.heap H locs → ∀ (ls : Array Slot), lv_has ls 3 [] → W p l e rmX10_selectPartitions s m args below meth c H locs 0 0 Q (F0 m 35 ls []) := by
    intro  h H locs hP hD hS ls hl
    unfold fX10_selectPartitions_B35 at h
    have hR := rk_keep hR0 hn hS
    refine lv_iconst (v := (-1)) hx hb dX10_selectPartitions_35 (by decide) ?_
    exact hret ((-1 : Int32), f_this_now, c_this_buffer, c_this_left, c_this_made, c_this_of, c_this_stackLong, c_this_stackOne) _ _ _ _ h dX10_selectPartitions_36 hP hD hS
  refine lv_if_eq (tgt := 35) hx hb dX10_selectPartitions_9 (by decide) (fun hc1 => ?_) (fun hc1 => ?_)
  · have h := rk_if hc1 h
    exact B35  h _ _ hP hD hS _ (lv_sub hl [] rfl)
  · have h := rk_nif hc1 h
    refine lv_iload_n hx hb dX10_selectPartitions_12 rfl (lv_at hl 2 rfl) ?_
    refine lv_i2l hx hb dX10_selectPartitions_13 rfl ?_
    refine lv_lconst (v := 1) hx hb dX10_selectPartitions_14 (by decide) ?_
    refine lv_iload_n hx hb dX10_selectPartitions_15 rfl (lv_at hl 1 rfl) ?_
    refine lv_i2l hx hb dX10_selectPartitions_16 rfl ?_
    obtain ⟨r_17, hc_17, h⟩ := rk_bd h
    refine rk_i (wr := [(a_this, .inr (9, [.ref a_this_chosen, .ref a_this_factorial, .ref a_this_catalan, .ref a_this_parted, .ref a_this_closed, .int f_this_now, .ref a_this_of, .ref a_this_buffer, .ref a_this_made, .ref a_this_stackOne, .ref a_this_stackOther, .ref a_this_stackLong, .ref a_this_left, .int f_this_entryMany, .ref a_this_entryFamily, .ref a_this_entryOf, .ref a_this_entryRank])), (a_this_buffer, .inl (cI, 60, .inl c_this_buffer)), (a_this_left, .inl (cI, 4, .inl c_this_left)), (a_this_made, .inl (cI, 60, .inl c_this_made)), (a_this_of, .inl (cI, 4, .inl c_this_of)), (a_this_stackLong, .inl (cJ, 64, .inr (.inl c_this_stackLong))), (a_this_stackOne, .inl (cI, 64, .inl c_this_stackOne))]) (va_runS (As := [.long v_p2.toInt64, .long (1 : Int64), .long v_p1.toInt64]) (rest := []) hF (mtX10_within l D cI cJ cO PL _ v_p2.toInt64 (1 : Int64) v_p1.toInt64 r_17 hc_17) (va_cwS 3 htc (rk_gVS w_4_50 w_4_51 w_1_7 w_4_52) rfl rfl rfl (by decide +kernel) ⟨(Nat.le_of_ble_eq_true rfl), (Nat.le_of_ble_eq_true rfl)⟩) (rk_preS hP hD hS hR hn hPL hnl hV [] [] rfl (by decide) rfl (by decide)) rfl rfl hl.1 rfl (lv_room (Nat.le_of_ble_eq_true rfl)) dX10_selectPartitions_17 ⟨(Nat.le_of_ble_eq_true rfl), (Nat.le_of_ble_eq_true rfl)⟩) hP hD hS hA hR0 hn [] [0, 1, 2, 3, 4, 5, 6] rfl rfl (by decide) (by decide) (fun H locs hP hD hS hR => ?_)
    have hP : va_P D vwCl [(a_this, .inr (9, [.ref a_this_chosen, .ref a_this_factorial, .ref a_this_catalan, .ref a_this_parted, .ref a_this_closed, .int f_this_now, .ref a_this_of, .ref a_this_buffer, .ref a_this_made, .ref a_this_stackOne, .ref a_this_stackOther, .ref a_this_stackLong, .ref a_this_left, .int f_this_entryMany, .ref a_this_entryFamily, .ref a_this_entryOf, .ref a_this_entryRank])), (a_this_buffer, .inl (cI, 60, .inl c_this_buffer)), (a_this_left, .inl (cI, 4, .inl c_this_left)), (a_this_made, .inl (cI, 60, .inl c_this_made)), (a_this_of, .inl (cI, 4, .inl c_this_of)), (a_this_stackLong, .inl (cJ, 64, .inr (.inl c_this_stackLong))), (a_this_stackOne, .inl (cI, 64, .inl c_this_stackOne))] H := hP
    have hD : va_D A [(a_this, .inr (9, [.ref a_this_chosen, .ref a_this_factorial, .ref a_this_catalan, .ref a_this_parted, .ref a_this_closed, .int f_this_now, .ref a_this_of, .ref a_this_buffer, .ref a_this_made, .ref a_this_stackOne, .ref a_this_stackOther, .ref a_this_stackLong, .ref a_this_left, .int f_this_entryMany, .ref a_this_entryFamily, .ref a_this_entryOf, .ref a_this_entryRank])), (a_this_buffer, .inl (cI, 60, .inl c_this_buffer)), (a_this_left, .inl (cI, 4, .inl c_this_left)), (a_this_made, .inl (cI, 60, .inl c_this_made)), (a_this_of, .inl (cI, 4, .inl c_this_of)), (a_this_stackLong, .inl (cJ, 64, .inr (.inl c_this_stackLong))), (a_this_stackOne, .inl (cI, 64, .inl c_this_stackOne))] := hD
    refine lv_if_eq (tgt := 35) hx hb dX10_selectPartitions_20 (by decide) (fun hc2 => ?_) (fun hc2 => ?_)
    · have h := rk_if hc2 h
      exact B35  h _ _ hP hD hS _ (lv_sub hl [] rfl)
    · have h := rk_nif hc2 h
      refine lv_aload_n hx hb dX10_selectPartitions_23 rfl (lv_at hl 0 rfl) ?_
      refine lv_iconst (v := 4) hx hb dX10_selectPartitions_24 (by decide) ?_
      refine lv_iload_n hx hb dX10_selectPartitions_25 rfl (lv_at hl 1 rfl) ?_
      refine lv_iload_n hx hb dX10_selectPartitions_26 rfl (lv_at hl 2 rfl) ?_
      refine lv_iconst (v := 0) hx hb dX10_selectPartitions_27 (by decide) ?_
      refine lv_iconst (v := 0) hx hb dX10_selectPartitions_28 (by decide) ?_
      obtain ⟨r_29, hc_29, h⟩ := rk_bd h
      refine rk_i (wr := []) (va_runV (C := RX10) (As := [.int (4 : Int32), .int v_p1, .int v_p2, .int (0 : Int32), .int (0 : Int32)]) (rest := []) hF (mtX10_select l D cI cJ cO PL _ a_this a_this_chosen a_this_factorial a_this_catalan a_this_parted a_this_closed f_this_now a_this_of a_this_buffer a_this_made a_this_stackOne a_this_stackOther a_this_stackLong a_this_left f_this_entryMany a_this_entryFamily a_this_entryOf a_this_entryRank c_this_buffer c_this_left c_this_made c_this_of c_this_stackLong c_this_stackOne c_this_catalan c_this_chosen c_this_closed c_this_parted (4 : Int32) v_p1 v_p2 (0 : Int32) (0 : Int32) r_29 hc_29) (cwV 5 htc (rk_gV w_4_54 w_4_56 ws_35 w_1_7 w_4_57) rfl rfl rfl (by decide +kernel) ⟨(Nat.le_of_ble_eq_true rfl), (Nat.le_of_ble_eq_true rfl)⟩) (rk_preV (va_recv hV.1 hP (ci := 9) (q0 := 0) rfl rfl) (rk_preS hP hD hS hR hn hPL hnl hV [0, 1, 2, 3, 4, 5, 6] [(false, 0), (false, 1), (false, 2), (false, 3)] rfl (by decide) rfl (by decide))) rfl rfl hl.1 rfl (lv_room (Nat.le_of_ble_eq_true rfl)) dX10_selectPartitions_29 ⟨(Nat.le_of_ble_eq_true rfl), (Nat.le_of_ble_eq_true rfl)⟩) hP hD hS hA hR0 hn [0, 1, 2, 3, 4, 5, 6] [] rfl rfl (by decide) (by decide) (fun H locs hP hD hS hR => ?_)
      have hP : va_P D vwCl [(a_this, .inr (9, [.ref a_this_chosen, .ref a_this_factorial, .ref a_this_catalan, .ref a_this_parted, .ref a_this_closed, .int r_29.2.1, .ref a_this_of, .ref a_this_buffer, .ref a_this_made, .ref a_this_stackOne, .ref a_this_stackOther, .ref a_this_stackLong, .ref a_this_left, .int f_this_entryMany, .ref a_this_entryFamily, .ref a_this_entryOf, .ref a_this_entryRank])), (a_this_buffer, .inl (cI, 60, .inl r_29.2.2.1)), (a_this_left, .inl (cI, 4, .inl r_29.2.2.2.1)), (a_this_made, .inl (cI, 60, .inl r_29.2.2.2.2.1)), (a_this_of, .inl (cI, 4, .inl r_29.2.2.2.2.2.1)), (a_this_stackLong, .inl (cJ, 64, .inr (.inl r_29.2.2.2.2.2.2.1))), (a_this_stackOne, .inl (cI, 64, .inl r_29.2.2.2.2.2.2.2))] H := hP
      have hD : va_D A [(a_this, .inr (9, [.ref a_this_chosen, .ref a_this_factorial, .ref a_this_catalan, .ref a_this_parted, .ref a_this_closed, .int r_29.2.1, .ref a_this_of, .ref a_this_buffer, .ref a_this_made, .ref a_this_stackOne, .ref a_this_stackOther, .ref a_this_stackLong, .ref a_this_left, .int f_this_entryMany, .ref a_this_entryFamily, .ref a_this_entryOf, .ref a_this_entryRank])), (a_this_buffer, .inl (cI, 60, .inl r_29.2.2.1)), (a_this_left, .inl (cI, 4, .inl r_29.2.2.2.1)), (a_this_made, .inl (cI, 60, .inl r_29.2.2.2.2.1)), (a_this_of, .inl (cI, 4, .inl r_29.2.2.2.2.2.1)), (a_this_stackLong, .inl (cJ, 64, .inr (.inl r_29.2.2.2.2.2.2.1))), (a_this_stackOne, .inl (cI, 64, .inl r_29.2.2.2.2.2.2.2))] := hD
      refine lv_goto (tgt := 36) hx hb dX10_selectPartitions_32 (by decide) ?_
      exact hret (r_29.1, r_29.2.1, r_29.2.2.1, r_29.2.2.2.1, r_29.2.2.2.2.1, r_29.2.2.2.2.2.1, r_29.2.2.2.2.2.2.1, r_29.2.2.2.2.2.2.2) _ _ _ _ h dX10_selectPartitions_36 hP hD hS
set_option maxHeartbeats 4000000 in
set_option maxRecDepth 100000 in
theorem mtX10_selectArrangements (l : Launch) (D : va_G) (cI cJ cO : ClassId) (PL : va_W) (sz : Nat) (a_this : Nat) (a_this_chosen : Nat) (a_this_factorial : Nat) (a_this_catalan : Nat) (a_this_parted : Nat) (a_this_closed : Nat) (f_this_now : Int32) (a_this_of : Nat) (a_this_buffer : Nat) (a_this_made : Nat) (a_this_stackOne : Nat) (a_this_stackOther : Nat) (a_this_stackLong : Nat) (a_this_left : Nat) (f_this_entryMany : Int32) (a_this_entryFamily : Nat) (a_this_entryOf : Nat) (a_this_entryRank : Nat) (c_this_buffer : Nat → Int32) (c_this_left : Nat → Int32) (c_this_made : Nat → Int32) (c_this_of : Nat → Int32) (c_this_stackLong : Nat → Int64) (c_this_stackOne : Nat → Int32) (c_this_catalan : Nat → Int64) (c_this_chosen : Nat → Int64) (c_this_closed : Nat → Int64) (c_this_parted : Nat → Int64) (v_p1 : Int32) (v_p2 : Int32) (v_p3 : Int32) (v_p4 : Int32) (r0 : Int32 × Int32 × (Nat → Int32) × (Nat → Int32) × (Nat → Int32) × (Nat → Int32) × (Nat → Int64) × (Nat → Int32)) (h : fX10_selectArrangements f_this_now c_this_buffer c_this_left c_this_made c_this_of c_this_stackLong c_this_stackOne c_this_catalan c_this_chosen c_this_closed c_this_parted v_p1 v_p2 v_p3 v_p4 = some r0) : Met l yX10_selectArrangements (rk_w yX10_selectArrangements cX10_selectArrangements 6 (some .int)) rmX10_selectArrangements (va_Pc [.ref a_this, .int v_p1, .int v_p2, .int v_p3, .int v_p4] (rk_B D (rk_TY cI cJ cO) [(a_this, .inr (9, [.ref a_this_chosen, .ref a_this_factorial, .ref a_this_catalan, .ref a_this_parted, .ref a_this_closed, .int f_this_now, .ref a_this_of, .ref a_this_buffer, .ref a_this_made, .ref a_this_stackOne, .ref a_this_stackOther, .ref a_this_stackLong, .ref a_this_left, .int f_this_entryMany, .ref a_this_entryFamily, .ref a_this_entryOf, .ref a_this_entryRank])), (a_this_buffer, .inl (cI, 60, .inl c_this_buffer)), (a_this_left, .inl (cI, 4, .inl c_this_left)), (a_this_made, .inl (cI, 60, .inl c_this_made)), (a_this_of, .inl (cI, 4, .inl c_this_of)), (a_this_stackLong, .inl (cJ, 64, .inr (.inl c_this_stackLong))), (a_this_stackOne, .inl (cI, 64, .inl c_this_stackOne))] [(a_this_catalan, .inl (cJ, 31, .inr (.inl c_this_catalan))), (a_this_chosen, .inl (cJ, 3721, .inr (.inl c_this_chosen))), (a_this_closed, .inl (cJ, 1722, .inr (.inl c_this_closed))), (a_this_parted, .inl (cJ, 3721, .inr (.inl c_this_parted)))] PL sz)) (rk_Qi r0.1 D [(a_this, .inr (9, [.ref a_this_chosen, .ref a_this_factorial, .ref a_this_catalan, .ref a_this_parted, .ref a_this_closed, .int r0.2.1, .ref a_this_of, .ref a_this_buffer, .ref a_this_made, .ref a_this_stackOne, .ref a_this_stackOther, .ref a_this_stackLong, .ref a_this_left, .int f_this_entryMany, .ref a_this_entryFamily, .ref a_this_entryOf, .ref a_this_entryRank])), (a_this_buffer, .inl (cI, 60, .inl r0.2.2.1)), (a_this_left, .inl (cI, 4, .inl r0.2.2.2.1)), (a_this_made, .inl (cI, 60, .inl r0.2.2.2.2.1)), (a_this_of, .inl (cI, 4, .inl r0.2.2.2.2.2.1)), (a_this_stackLong, .inl (cJ, 64, .inr (.inl r0.2.2.2.2.2.2.1))), (a_this_stackOne, .inl (cI, 64, .inl r0.2.2.2.2.2.2.2))] [(a_this, .inr (9, [.ref a_this_chosen, .ref a_this_factorial, .ref a_this_catalan, .ref a_this_parted, .ref a_this_closed, .int f_this_now, .ref a_this_of, .ref a_this_buffer, .ref a_this_made, .ref a_this_stackOne, .ref a_this_stackOther, .ref a_this_stackLong, .ref a_this_left, .int f_this_entryMany, .ref a_this_entryFamily, .ref a_this_entryOf, .ref a_this_entryRank])), (a_this_buffer, .inl (cI, 60, .inl c_this_buffer)), (a_this_left, .inl (cI, 4, .inl c_this_left)), (a_this_made, .inl (cI, 60, .inl c_this_made)), (a_this_of, .inl (cI, 4, .inl c_this_of)), (a_this_stackLong, .inl (cJ, 64, .inr (.inl c_this_stackLong))), (a_this_stackOne, .inl (cI, 64, .inl c_this_stackOne))] sz) 0 0 (va_A [(a_this, .inr (9, [.ref a_this_chosen, .ref a_this_factorial, .ref a_this_catalan, .ref a_this_parted, .ref a_this_closed, .int f_this_now, .ref a_this_of, .ref a_this_buffer, .ref a_this_made, .ref a_this_stackOne, .ref a_this_stackOther, .ref a_this_stackLong, .ref a_this_left, .int f_this_entryMany, .ref a_this_entryFamily, .ref a_this_entryOf, .ref a_this_entryRank])), (a_this_buffer, .inl (cI, 60, .inl c_this_buffer)), (a_this_left, .inl (cI, 4, .inl c_this_left)), (a_this_made, .inl (cI, 60, .inl c_this_made)), (a_this_of, .inl (cI, 4, .inl c_this_of)), (a_this_stackLong, .inl (cJ, 64, .inr (.inl c_this_stackLong))), (a_this_stackOne, .inl (cI, 64, .inl c_this_stackOne))] sz) := by
  refine rk_meti h (fun x : Int32 × Int32 × (Nat → Int32) × (Nat → Int32) × (Nat → Int32) × (Nat → Int32) × (Nat → Int64) × (Nat → Int32) => x.1) (fun x => [(a_this, .inr (9, [.ref a_this_chosen, .ref a_this_factorial, .ref a_this_catalan, .ref a_this_parted, .ref a_this_closed, .int x.2.1, .ref a_this_of, .ref a_this_buffer, .ref a_this_made, .ref a_this_stackOne, .ref a_this_stackOther, .ref a_this_stackLong, .ref a_this_left, .int f_this_entryMany, .ref a_this_entryFamily, .ref a_this_entryOf, .ref a_this_entryRank])), (a_this_buffer, .inl (cI, 60, .inl x.2.2.1)), (a_this_left, .inl (cI, 4, .inl x.2.2.2.1)), (a_this_made, .inl (cI, 60, .inl x.2.2.2.2.1)), (a_this_of, .inl (cI, 4, .inl x.2.2.2.2.2.1)), (a_this_stackLong, .inl (cJ, 64, .inr (.inl x.2.2.2.2.2.2.1))), (a_this_stackOne, .inl (cI, 64, .inl x.2.2.2.2.2.2.2))]) (by decide) (Nat.le_of_ble_eq_true rfl) ?_
  intro p e s m args below meth c A ls Q hret hname hF hP hD hA hV hR0 hn hPL hnl hl h hS
  have hx := hF.1
  have hb := hF.2.1
  have hml := hF.2.2.1
  have hown : s.vm.findClass RX10 = some m.cls := hF.2.2.2.1
  have htc := hF.2.2.2.2
  have hP : va_P D vwCl [(a_this, .inr (9, [.ref a_this_chosen, .ref a_this_factorial, .ref a_this_catalan, .ref a_this_parted, .ref a_this_closed, .int f_this_now, .ref a_this_of, .ref a_this_buffer, .ref a_this_made, .ref a_this_stackOne, .ref a_this_stackOther, .ref a_this_stackLong, .ref a_this_left, .int f_this_entryMany, .ref a_this_entryFamily, .ref a_this_entryOf, .ref a_this_entryRank])), (a_this_buffer, .inl (cI, 60, .inl c_this_buffer)), (a_this_left, .inl (cI, 4, .inl c_this_left)), (a_this_made, .inl (cI, 60, .inl c_this_made)), (a_this_of, .inl (cI, 4, .inl c_this_of)), (a_this_stackLong, .inl (cJ, 64, .inr (.inl c_this_stackLong))), (a_this_stackOne, .inl (cI, 64, .inl c_this_stackOne))] s.heap := hP
  have hD : va_D A [(a_this, .inr (9, [.ref a_this_chosen, .ref a_this_factorial, .ref a_this_catalan, .ref a_this_parted, .ref a_this_closed, .int f_this_now, .ref a_this_of, .ref a_this_buffer, .ref a_this_made, .ref a_this_stackOne, .ref a_this_stackOther, .ref a_this_stackLong, .ref a_this_left, .int f_this_entryMany, .ref a_this_entryFamily, .ref a_this_entryOf, .ref a_this_entryRank])), (a_this_buffer, .inl (cI, 60, .inl c_this_buffer)), (a_this_left, .inl (cI, 4, .inl c_this_left)), (a_this_made, .inl (cI, 60, .inl c_this_made)), (a_this_of, .inl (cI, 4, .inl c_this_of)), (a_this_stackLong, .inl (cJ, 64, .inr (.inl c_this_stackLong))), (a_this_stackOne, .inl (cI, 64, .inl c_this_stackOne))] := hD
  have hR0 : va_P D vwCl [(a_this_catalan, .inl (cJ, 31, .inr (.inl c_this_catalan))), (a_this_chosen, .inl (cJ, 3721, .inr (.inl c_this_chosen))), (a_this_closed, .inl (cJ, 1722, .inr (.inl c_this_closed))), (a_this_parted, .inl (cJ, 3721, .inr (.inl c_this_parted)))] s.heap := hR0
  have hR := hR0
  have hl : lv_has ls 6 [(0, .ref a_this), (1, .int v_p1), (2, .int v_p2), (3, .int v_p3), (4, .int v_p4)] := hl
  unfold fX10_selectArrangements at h
  refine lv_iload_n hx hb dX10_selectArrangements_0 rfl (lv_at hl 1 rfl) ?_
  refine lv_i2l hx hb dX10_selectArrangements_1 rfl ?_
  refine lv_lconst (v := 0) hx hb dX10_selectArrangements_2 (by decide) ?_
  refine lv_ldc2 (v := (20 : Int64)) hx hb hown (htc _ w_4_126) dX10_selectArrangements_3 ?_
  obtain ⟨r_6, hc_6, h⟩ := rk_bd h
  refine rk_i (wr := [(a_this, .inr (9, [.ref a_this_chosen, .ref a_this_factorial, .ref a_this_catalan, .ref a_this_parted, .ref a_this_closed, .int f_this_now, .ref a_this_of, .ref a_this_buffer, .ref a_this_made, .ref a_this_stackOne, .ref a_this_stackOther, .ref a_this_stackLong, .ref a_this_left, .int f_this_entryMany, .ref a_this_entryFamily, .ref a_this_entryOf, .ref a_this_entryRank])), (a_this_buffer, .inl (cI, 60, .inl c_this_buffer)), (a_this_left, .inl (cI, 4, .inl c_this_left)), (a_this_made, .inl (cI, 60, .inl c_this_made)), (a_this_of, .inl (cI, 4, .inl c_this_of)), (a_this_stackLong, .inl (cJ, 64, .inr (.inl c_this_stackLong))), (a_this_stackOne, .inl (cI, 64, .inl c_this_stackOne))]) (va_runS (As := [.long v_p1.toInt64, .long (0 : Int64), .long (20 : Int64)]) (rest := []) hF (mtX10_within l D cI cJ cO PL _ v_p1.toInt64 (0 : Int64) (20 : Int64) r_6 hc_6) (va_cwS 3 htc (rk_gVS w_4_50 w_4_51 w_1_7 w_4_52) rfl rfl rfl (by decide +kernel) ⟨(Nat.le_of_ble_eq_true rfl), (Nat.le_of_ble_eq_true rfl)⟩) (rk_preS hP hD hS hR hn hPL hnl hV [] [] rfl (by decide) rfl (by decide)) rfl rfl hl.1 rfl (lv_room (Nat.le_of_ble_eq_true rfl)) dX10_selectArrangements_6 ⟨(Nat.le_of_ble_eq_true rfl), (Nat.le_of_ble_eq_true rfl)⟩) hP hD hS hA hR0 hn [] [0, 1, 2, 3, 4, 5, 6] rfl rfl (by decide) (by decide) (fun H locs hP hD hS hR => ?_)
  have hP : va_P D vwCl [(a_this, .inr (9, [.ref a_this_chosen, .ref a_this_factorial, .ref a_this_catalan, .ref a_this_parted, .ref a_this_closed, .int f_this_now, .ref a_this_of, .ref a_this_buffer, .ref a_this_made, .ref a_this_stackOne, .ref a_this_stackOther, .ref a_this_stackLong, .ref a_this_left, .int f_this_entryMany, .ref a_this_entryFamily, .ref a_this_entryOf, .ref a_this_entryRank])), (a_this_buffer, .inl (cI, 60, .inl c_this_buffer)), (a_this_left, .inl (cI, 4, .inl c_this_left)), (a_this_made, .inl (cI, 60, .inl c_this_made)), (a_this_of, .inl (cI, 4, .inl c_this_of)), (a_this_stackLong, .inl (cJ, 64, .inr (.inl c_this_stackLong))), (a_this_stackOne, .inl (cI, 64, .inl c_this_stackOne))] H := hP
  have hD : va_D A [(a_this, .inr (9, [.ref a_this_chosen, .ref a_this_factorial, .ref a_this_catalan, .ref a_this_parted, .ref a_this_closed, .int f_this_now, .ref a_this_of, .ref a_this_buffer, .ref a_this_made, .ref a_this_stackOne, .ref a_this_stackOther, .ref a_this_stackLong, .ref a_this_left, .int f_this_entryMany, .ref a_this_entryFamily, .ref a_this_entryOf, .ref a_this_entryRank])), (a_this_buffer, .inl (cI, 60, .inl c_this_buffer)), (a_this_left, .inl (cI, 4, .inl c_this_left)), (a_this_made, .inl (cI, 60, .inl c_this_made)), (a_this_of, .inl (cI, 4, .inl c_this_of)), (a_this_stackLong, .inl (cJ, 64, .inr (.inl c_this_stackLong))), (a_this_stackOne, .inl (cI, 64, .inl c_this_stackOne))] := hD
  have B54 : ∀ (b54_t0 : Int32), fX10_selectArrangements_B54 f_this_now c_this_buffer c_this_left c_this_made c_this_of c_this_stackLong c_this_stackOne c_this_catalan c_this_chosen c_this_closed c_this_parted v_p1 v_p2 v_p3 v_p4 b54_t0 = some r0 → ∀ (H : Heap) (locs : List Loc), va_P D vwCl [(a_this, .inr (9, [.ref a_this_chosen, .ref a_this_factorial, .ref a_this_catalan, .ref a_this_parted, .ref a_this_closed, .int f_this_now, .ref a_this_of, .ref a_this_buffer, .ref a_this_made, .ref a_this_stackOne, .ref a_this_stackOther, .ref a_this_stackLong, .ref a_this_left, .int f_this_entryMany, .ref a_this_entryFamily, .ref a_this_entryOf, .ref a_this_entryRank])), (a_this_buffer, .inl (cI, 60, .inl c_this_buffer)), (a_this_left, .inl (cI, 4, .inl c_this_left)), (a_this_made, .inl (cI, 60, .inl c_this_made)), (a_this_of, .inl (cI, 4, .inl c_this_of)), (a_this_stackLong, .inl (cJ, 64, .inr (.inl c_this_stackLong))), (a_this_stackOne, .inl (cI, 64, .inl c_this_stackOne))] H → va_D A [(a_this, .inr (9, [.ref a_this_chosen, .ref a_this_factorial, .ref a_this_catalan, .ref a_this_parted, .ref a_this_closed, .int f_this_now, .ref a_this_of, .ref a_this_buffer, .ref a_this_made, .ref a_this_stackOne, .ref a_this_stackOther, .ref a_this_stackLong, .ref a_this_left, .int f_this_entryMany, .ref a_this_entryFamily, .ref a_this_entryOf, .ref a_this_entryRank])), (a_this_buffer, .inl (cI, 60, .inl c_this_buffer)), (a_this_left, .inl (cI, 4, .inl c_this_left)), (a_this_made, .inl (cI, 60, .inl c_this_made)), (a_this_of, .inl (cI, 4, .inl c_this_of)), (a_this_stackLong, .inl (cJ, 64, .inr (.inl c_this_stackLong))), (a_this_stackOne, .inl (cI, 64, .inl c_this_stackOne))] → va_S A s.heap H locs → ∀ (ls : Array Slot), lv_has ls 6 [(0, .ref a_this), (1, .int v_p1), (2, .int v_p2), (3, .int v_p3), (4, .int v_p4)] → W p l e rmX10_selectArrangements s m args below meth c H locs 0 0 Q (F0 m 54 ls [.int b54_t0]) := by
    intro b54_t0 h H locs hP hD hS ls hl
    unfold fX10_selectArrangements_B54 at h
    have hR := rk_keep hR0 hn hS
    refine lv_istore (lv' := [(5, .int b54_t0), (0, .ref a_this), (1, .int v_p1), (2, .int v_p2), (3, .int v_p3), (4, .int v_p4)]) hx hb dX10_selectArrangements_54 hl (by decide) rfl (fun ls hl => ?_)
    refine lv_iload hx hb dX10_selectArrangements_56 (lv_at hl 0 rfl) ?_
    have B93 : fX10_selectArrangements_B93 f_this_now c_this_buffer c_this_left c_this_made c_this_of c_this_stackLong c_this_stackOne = some r0 → ∀ (H : Heap) (locs : List Loc), va_P D vwCl [(a_this, .inr (9, [.ref a_this_chosen, .ref a_this_factorial, .ref a_this_catalan, .ref a_this_parted, .ref a_this_closed, .int f_this_now, .ref a_this_of, .ref a_this_buffer, .ref a_this_made, .ref a_this_stackOne, .ref a_this_stackOther, .ref a_this_stackLong, .ref a_this_left, .int f_this_entryMany, .ref a_this_entryFamily, .ref a_this_entryOf, .ref a_this_entryRank])), (a_this_buffer, .inl (cI, 60, .inl c_this_buffer)), (a_this_left, .inl (cI, 4, .inl c_this_left)), (a_this_made, .inl (cI, 60, .inl c_this_made)), (a_this_of, .inl (cI, 4, .inl c_this_of)), (a_this_stackLong, .inl (cJ, 64, .inr (.inl c_this_stackLong))), (a_this_stackOne, .inl (cI, 64, .inl c_this_stackOne))] H → va_D A [(a_this, .inr (9, [.ref a_this_chosen, .ref a_this_factorial, .ref a_this_catalan, .ref a_this_parted, .ref a_this_closed, .int f_this_now, .ref a_this_of, .ref a_this_buffer, .ref a_this_made, .ref a_this_stackOne, .ref a_this_stackOther, .ref a_this_stackLong, .ref a_this_left, .int f_this_entryMany, .ref a_this_entryFamily, .ref a_this_entryOf, .ref a_this_entryRank])), (a_this_buffer, .inl (cI, 60, .inl c_this_buffer)), (a_this_left, .inl (cI, 4, .inl c_this_left)), (a_this_made, .inl (cI, 60, .inl c_this_made)), (a_this_of, .inl (cI, 4, .inl c_this_of)), (a_this_stackLong, .inl (cJ, 64, .inr (.inl c_this_stackLong))), (a_this_stackOne, .inl (cI, 64, .inl c_this_stackOne))] → va_S A s.heap H locs → ∀ (ls : Array Slot), lv_has ls 6 [] → W p l e rmX10_selectArrangements s m args below meth c H locs 0 0 Q (F0 m 93 ls []) := by
      intro  h H locs hP hD hS ls hl
      unfold fX10_selectArrangements_B93 at h
      have hR := rk_keep hR0 hn hS
      refine lv_iconst (v := (-1)) hx hb dX10_selectArrangements_93 (by decide) ?_
      exact hret ((-1 : Int32), f_this_now, c_this_buffer, c_this_left, c_this_made, c_this_of, c_this_stackLong, c_this_stackOne) _ _ _ _ h dX10_selectArrangements_94 hP hD hS
    refine lv_if_eq (tgt := 93) hx hb dX10_selectArrangements_58 (by decide) (fun hc1 => ?_) (fun hc1 => ?_)
    · have h := rk_if hc1 h
      exact B93  h _ _ hP hD hS _ (lv_sub hl [] rfl)
    · have h := rk_nif hc1 h
      refine lv_iload_n hx hb dX10_selectArrangements_61 rfl (lv_at hl 2 rfl) ?_
      refine lv_iload_n hx hb dX10_selectArrangements_62 rfl (lv_at hl 3 rfl) ?_
      refine lv_iadd hx hb dX10_selectArrangements_63 ?_
      refine lv_iload_n hx hb dX10_selectArrangements_64 rfl (lv_at hl 4 rfl) ?_
      refine lv_iadd hx hb dX10_selectArrangements_65 ?_
      refine lv_iload hx hb dX10_selectArrangements_66 (lv_at hl 5 rfl) ?_
      refine lv_iadd hx hb dX10_selectArrangements_68 ?_
      refine lv_i2l hx hb dX10_selectArrangements_69 rfl ?_
      refine lv_lconst (v := 1) hx hb dX10_selectArrangements_70 (by decide) ?_
      refine lv_ldc2 (v := (20 : Int64)) hx hb hown (htc _ w_4_126) dX10_selectArrangements_71 ?_
      obtain ⟨r_74, hc_74, h⟩ := rk_bd h
      refine rk_i (wr := [(a_this, .inr (9, [.ref a_this_chosen, .ref a_this_factorial, .ref a_this_catalan, .ref a_this_parted, .ref a_this_closed, .int f_this_now, .ref a_this_of, .ref a_this_buffer, .ref a_this_made, .ref a_this_stackOne, .ref a_this_stackOther, .ref a_this_stackLong, .ref a_this_left, .int f_this_entryMany, .ref a_this_entryFamily, .ref a_this_entryOf, .ref a_this_entryRank])), (a_this_buffer, .inl (cI, 60, .inl c_this_buffer)), (a_this_left, .inl (cI, 4, .inl c_this_left)), (a_this_made, .inl (cI, 60, .inl c_this_made)), (a_this_of, .inl (cI, 4, .inl c_this_of)), (a_this_stackLong, .inl (cJ, 64, .inr (.inl c_this_stackLong))), (a_this_stackOne, .inl (cI, 64, .inl c_this_stackOne))]) (va_runS (As := [.long (((v_p1 + v_p2) + v_p3) + v_p4).toInt64, .long (1 : Int64), .long (20 : Int64)]) (rest := []) hF (mtX10_within l D cI cJ cO PL _ ((((v_p1 + v_p2) + v_p3) + v_p4).toInt64) (1 : Int64) (20 : Int64) r_74 hc_74) (va_cwS 3 htc (rk_gVS w_4_50 w_4_51 w_1_7 w_4_52) rfl rfl rfl (by decide +kernel) ⟨(Nat.le_of_ble_eq_true rfl), (Nat.le_of_ble_eq_true rfl)⟩) (rk_preS hP hD hS hR hn hPL hnl hV [] [] rfl (by decide) rfl (by decide)) rfl rfl hl.1 rfl (lv_room (Nat.le_of_ble_eq_true rfl)) dX10_selectArrangements_74 ⟨(Nat.le_of_ble_eq_true rfl), (Nat.le_of_ble_eq_true rfl)⟩) hP hD hS hA hR0 hn [] [0, 1, 2, 3, 4, 5, 6] rfl rfl (by decide) (by decide) (fun H locs hP hD hS hR => ?_)
      have hP : va_P D vwCl [(a_this, .inr (9, [.ref a_this_chosen, .ref a_this_factorial, .ref a_this_catalan, .ref a_this_parted, .ref a_this_closed, .int f_this_now, .ref a_this_of, .ref a_this_buffer, .ref a_this_made, .ref a_this_stackOne, .ref a_this_stackOther, .ref a_this_stackLong, .ref a_this_left, .int f_this_entryMany, .ref a_this_entryFamily, .ref a_this_entryOf, .ref a_this_entryRank])), (a_this_buffer, .inl (cI, 60, .inl c_this_buffer)), (a_this_left, .inl (cI, 4, .inl c_this_left)), (a_this_made, .inl (cI, 60, .inl c_this_made)), (a_this_of, .inl (cI, 4, .inl c_this_of)), (a_this_stackLong, .inl (cJ, 64, .inr (.inl c_this_stackLong))), (a_this_stackOne, .inl (cI, 64, .inl c_this_stackOne))] H := hP
      have hD : va_D A [(a_this, .inr (9, [.ref a_this_chosen, .ref a_this_factorial, .ref a_this_catalan, .ref a_this_parted, .ref a_this_closed, .int f_this_now, .ref a_this_of, .ref a_this_buffer, .ref a_this_made, .ref a_this_stackOne, .ref a_this_stackOther, .ref a_this_stackLong, .ref a_this_left, .int f_this_entryMany, .ref a_this_entryFamily, .ref a_this_entryOf, .ref a_this_entryRank])), (a_this_buffer, .inl (cI, 60, .inl c_this_buffer)), (a_this_left, .inl (cI, 4, .inl c_this_left)), (a_this_made, .inl (cI, 60, .inl c_this_made)), (a_this_of, .inl (cI, 4, .inl c_this_of)), (a_this_stackLong, .inl (cJ, 64, .inr (.inl c_this_stackLong))), (a_this_stackOne, .inl (cI, 64, .inl c_this_stackOne))] := hD
      refine lv_if_eq (tgt := 93) hx hb dX10_selectArrangements_77 (by decide) (fun hc2 => ?_) (fun hc2 => ?_)
      · have h := rk_if hc2 h
        exact B93  h _ _ hP hD hS _ (lv_sub hl [] rfl)
      · have h := rk_nif hc2 h
        refine lv_aload_n hx hb dX10_selectArrangements_80 rfl (lv_at hl 1 rfl) ?_
        refine lv_iconst (v := 5) hx hb dX10_selectArrangements_81 (by decide) ?_
        refine lv_iload_n hx hb dX10_selectArrangements_82 rfl (lv_at hl 2 rfl) ?_
        refine lv_iload_n hx hb dX10_selectArrangements_83 rfl (lv_at hl 3 rfl) ?_
        refine lv_iload_n hx hb dX10_selectArrangements_84 rfl (lv_at hl 4 rfl) ?_
        refine lv_iload hx hb dX10_selectArrangements_85 (lv_at hl 5 rfl) ?_
        obtain ⟨r_87, hc_87, h⟩ := rk_bd h
        refine rk_i (wr := []) (va_runV (C := RX10) (As := [.int (5 : Int32), .int v_p1, .int v_p2, .int v_p3, .int v_p4]) (rest := []) hF (mtX10_select l D cI cJ cO PL _ a_this a_this_chosen a_this_factorial a_this_catalan a_this_parted a_this_closed f_this_now a_this_of a_this_buffer a_this_made a_this_stackOne a_this_stackOther a_this_stackLong a_this_left f_this_entryMany a_this_entryFamily a_this_entryOf a_this_entryRank c_this_buffer c_this_left c_this_made c_this_of c_this_stackLong c_this_stackOne c_this_catalan c_this_chosen c_this_closed c_this_parted (5 : Int32) v_p1 v_p2 v_p3 v_p4 r_87 hc_87) (cwV 5 htc (rk_gV w_4_54 w_4_56 ws_35 w_1_7 w_4_57) rfl rfl rfl (by decide +kernel) ⟨(Nat.le_of_ble_eq_true rfl), (Nat.le_of_ble_eq_true rfl)⟩) (rk_preV (va_recv hV.1 hP (ci := 9) (q0 := 0) rfl rfl) (rk_preS hP hD hS hR hn hPL hnl hV [0, 1, 2, 3, 4, 5, 6] [(false, 0), (false, 1), (false, 2), (false, 3)] rfl (by decide) rfl (by decide))) rfl rfl hl.1 rfl (lv_room (Nat.le_of_ble_eq_true rfl)) dX10_selectArrangements_87 ⟨(Nat.le_of_ble_eq_true rfl), (Nat.le_of_ble_eq_true rfl)⟩) hP hD hS hA hR0 hn [0, 1, 2, 3, 4, 5, 6] [] rfl rfl (by decide) (by decide) (fun H locs hP hD hS hR => ?_)
        have hP : va_P D vwCl [(a_this, .inr (9, [.ref a_this_chosen, .ref a_this_factorial, .ref a_this_catalan, .ref a_this_parted, .ref a_this_closed, .int r_87.2.1, .ref a_this_of, .ref a_this_buffer, .ref a_this_made, .ref a_this_stackOne, .ref a_this_stackOther, .ref a_this_stackLong, .ref a_this_left, .int f_this_entryMany, .ref a_this_entryFamily, .ref a_this_entryOf, .ref a_this_entryRank])), (a_this_buffer, .inl (cI, 60, .inl r_87.2.2.1)), (a_this_left, .inl (cI, 4, .inl r_87.2.2.2.1)), (a_this_made, .inl (cI, 60, .inl r_87.2.2.2.2.1)), (a_this_of, .inl (cI, 4, .inl r_87.2.2.2.2.2.1)), (a_this_stackLong, .inl (cJ, 64, .inr (.inl r_87.2.2.2.2.2.2.1))), (a_this_stackOne, .inl (cI, 64, .inl r_87.2.2.2.2.2.2.2))] H := hP
        have hD : va_D A [(a_this, .inr (9, [.ref a_this_chosen, .ref a_this_factorial, .ref a_this_catalan, .ref a_this_parted, .ref a_this_closed, .int r_87.2.1, .ref a_this_of, .ref a_this_buffer, .ref a_this_made, .ref a_this_stackOne, .ref a_this_stackOther, .ref a_this_stackLong, .ref a_this_left, .int f_this_entryMany, .ref a_this_entryFamily, .ref a_this_entryOf, .ref a_this_entryRank])), (a_this_buffer, .inl (cI, 60, .inl r_87.2.2.1)), (a_this_left, .inl (cI, 4, .inl r_87.2.2.2.1)), (a_this_made, .inl (cI, 60, .inl r_87.2.2.2.2.1)), (a_this_of, .inl (cI, 4, .inl r_87.2.2.2.2.2.1)), (a_this_stackLong, .inl (cJ, 64, .inr (.inl r_87.2.2.2.2.2.2.1))), (a_this_stackOne, .inl (cI, 64, .inl r_87.2.2.2.2.2.2.2))] := hD
        refine lv_goto (tgt := 94) hx hb dX10_selectArrangements_90 (by decide) ?_
        exact hret (r_87.1, r_87.2.1, r_87.2.2.1, r_87.2.2.2.1, r_87.2.2.2.2.1, r_87.2.2.2.2.2.1, r_87.2.2.2.2.2.2.1, r_87.2.2.2.2.2.2.2) _ _ _ _ h dX10_selectArrangements_94 hP hD hS
  have B53 : fX10_selectArrangements_B53 f_this_now c_this_buffer c_this_left c_this_made c_this_of c_this_stackLong c_this_stackOne c_this_catalan c_this_chosen c_this_closed c_this_parted v_p1 v_p2 v_p3 v_p4 = some r0 → ∀ (H : Heap) (locs : List Loc), va_P D vwCl [(a_this, .inr (9, [.ref a_this_chosen, .ref a_this_factorial, .ref a_this_catalan, .ref a_this_parted, .ref a_this_closed, .int f_this_now, .ref a_this_of, .ref a_this_buffer, .ref a_this_made, .ref a_this_stackOne, .ref a_this_stackOther, .ref a_this_stackLong, .ref a_this_left, .int f_this_entryMany, .ref a_this_entryFamily, .ref a_this_entryOf, .ref a_this_entryRank])), (a_this_buffer, .inl (cI, 60, .inl c_this_buffer)), (a_this_left, .inl (cI, 4, .inl c_this_left)), (a_this_made, .inl (cI, 60, .inl c_this_made)), (a_this_of, .inl (cI, 4, .inl c_this_of)), (a_this_stackLong, .inl (cJ, 64, .inr (.inl c_this_stackLong))), (a_this_stackOne, .inl (cI, 64, .inl c_this_stackOne))] H → va_D A [(a_this, .inr (9, [.ref a_this_chosen, .ref a_this_factorial, .ref a_this_catalan, .ref a_this_parted, .ref a_this_closed, .int f_this_now, .ref a_this_of, .ref a_this_buffer, .ref a_this_made, .ref a_this_stackOne, .ref a_this_stackOther, .ref a_this_stackLong, .ref a_this_left, .int f_this_entryMany, .ref a_this_entryFamily, .ref a_this_entryOf, .ref a_this_entryRank])), (a_this_buffer, .inl (cI, 60, .inl c_this_buffer)), (a_this_left, .inl (cI, 4, .inl c_this_left)), (a_this_made, .inl (cI, 60, .inl c_this_made)), (a_this_of, .inl (cI, 4, .inl c_this_of)), (a_this_stackLong, .inl (cJ, 64, .inr (.inl c_this_stackLong))), (a_this_stackOne, .inl (cI, 64, .inl c_this_stackOne))] → va_S A s.heap H locs → ∀ (ls : Array Slot), lv_has ls 6 [(0, .ref a_this), (1, .int v_p1), (2, .int v_p2), (3, .int v_p3), (4, .int v_p4)] → W p l e rmX10_selectArrangements s m args below meth c H locs 0 0 Q (F0 m 53 ls []) := by
    intro  h H locs hP hD hS ls hl
    unfold fX10_selectArrangements_B53 at h
    have hR := rk_keep hR0 hn hS
    refine lv_iconst (v := 0) hx hb dX10_selectArrangements_53 (by decide) ?_
    exact B54 (0 : Int32) h _ _ hP hD hS _ hl
  refine lv_if_eq (tgt := 53) hx hb dX10_selectArrangements_9 (by decide) (fun hc3 => ?_) (fun hc3 => ?_)
  · have h := rk_if hc3 h
    exact B53  h _ _ hP hD hS _ hl
  · have h := rk_nif hc3 h
    refine lv_iload_n hx hb dX10_selectArrangements_12 rfl (lv_at hl 2 rfl) ?_
    refine lv_i2l hx hb dX10_selectArrangements_13 rfl ?_
    refine lv_lconst (v := 0) hx hb dX10_selectArrangements_14 (by decide) ?_
    refine lv_ldc2 (v := (20 : Int64)) hx hb hown (htc _ w_4_126) dX10_selectArrangements_15 ?_
    obtain ⟨r_18, hc_18, h⟩ := rk_bd h
    refine rk_i (wr := [(a_this, .inr (9, [.ref a_this_chosen, .ref a_this_factorial, .ref a_this_catalan, .ref a_this_parted, .ref a_this_closed, .int f_this_now, .ref a_this_of, .ref a_this_buffer, .ref a_this_made, .ref a_this_stackOne, .ref a_this_stackOther, .ref a_this_stackLong, .ref a_this_left, .int f_this_entryMany, .ref a_this_entryFamily, .ref a_this_entryOf, .ref a_this_entryRank])), (a_this_buffer, .inl (cI, 60, .inl c_this_buffer)), (a_this_left, .inl (cI, 4, .inl c_this_left)), (a_this_made, .inl (cI, 60, .inl c_this_made)), (a_this_of, .inl (cI, 4, .inl c_this_of)), (a_this_stackLong, .inl (cJ, 64, .inr (.inl c_this_stackLong))), (a_this_stackOne, .inl (cI, 64, .inl c_this_stackOne))]) (va_runS (As := [.long v_p2.toInt64, .long (0 : Int64), .long (20 : Int64)]) (rest := []) hF (mtX10_within l D cI cJ cO PL _ v_p2.toInt64 (0 : Int64) (20 : Int64) r_18 hc_18) (va_cwS 3 htc (rk_gVS w_4_50 w_4_51 w_1_7 w_4_52) rfl rfl rfl (by decide +kernel) ⟨(Nat.le_of_ble_eq_true rfl), (Nat.le_of_ble_eq_true rfl)⟩) (rk_preS hP hD hS hR hn hPL hnl hV [] [] rfl (by decide) rfl (by decide)) rfl rfl hl.1 rfl (lv_room (Nat.le_of_ble_eq_true rfl)) dX10_selectArrangements_18 ⟨(Nat.le_of_ble_eq_true rfl), (Nat.le_of_ble_eq_true rfl)⟩) hP hD hS hA hR0 hn [] [0, 1, 2, 3, 4, 5, 6] rfl rfl (by decide) (by decide) (fun H locs hP hD hS hR => ?_)
    have hP : va_P D vwCl [(a_this, .inr (9, [.ref a_this_chosen, .ref a_this_factorial, .ref a_this_catalan, .ref a_this_parted, .ref a_this_closed, .int f_this_now, .ref a_this_of, .ref a_this_buffer, .ref a_this_made, .ref a_this_stackOne, .ref a_this_stackOther, .ref a_this_stackLong, .ref a_this_left, .int f_this_entryMany, .ref a_this_entryFamily, .ref a_this_entryOf, .ref a_this_entryRank])), (a_this_buffer, .inl (cI, 60, .inl c_this_buffer)), (a_this_left, .inl (cI, 4, .inl c_this_left)), (a_this_made, .inl (cI, 60, .inl c_this_made)), (a_this_of, .inl (cI, 4, .inl c_this_of)), (a_this_stackLong, .inl (cJ, 64, .inr (.inl c_this_stackLong))), (a_this_stackOne, .inl (cI, 64, .inl c_this_stackOne))] H := hP
    have hD : va_D A [(a_this, .inr (9, [.ref a_this_chosen, .ref a_this_factorial, .ref a_this_catalan, .ref a_this_parted, .ref a_this_closed, .int f_this_now, .ref a_this_of, .ref a_this_buffer, .ref a_this_made, .ref a_this_stackOne, .ref a_this_stackOther, .ref a_this_stackLong, .ref a_this_left, .int f_this_entryMany, .ref a_this_entryFamily, .ref a_this_entryOf, .ref a_this_entryRank])), (a_this_buffer, .inl (cI, 60, .inl c_this_buffer)), (a_this_left, .inl (cI, 4, .inl c_this_left)), (a_this_made, .inl (cI, 60, .inl c_this_made)), (a_this_of, .inl (cI, 4, .inl c_this_of)), (a_this_stackLong, .inl (cJ, 64, .inr (.inl c_this_stackLong))), (a_this_stackOne, .inl (cI, 64, .inl c_this_stackOne))] := hD
    refine lv_if_eq (tgt := 53) hx hb dX10_selectArrangements_21 (by decide) (fun hc4 => ?_) (fun hc4 => ?_)
    · have h := rk_if hc4 h
      exact B53  h _ _ hP hD hS _ hl
    · have h := rk_nif hc4 h
      refine lv_iload_n hx hb dX10_selectArrangements_24 rfl (lv_at hl 3 rfl) ?_
      refine lv_i2l hx hb dX10_selectArrangements_25 rfl ?_
      refine lv_lconst (v := 0) hx hb dX10_selectArrangements_26 (by decide) ?_
      refine lv_ldc2 (v := (20 : Int64)) hx hb hown (htc _ w_4_126) dX10_selectArrangements_27 ?_
      obtain ⟨r_30, hc_30, h⟩ := rk_bd h
      refine rk_i (wr := [(a_this, .inr (9, [.ref a_this_chosen, .ref a_this_factorial, .ref a_this_catalan, .ref a_this_parted, .ref a_this_closed, .int f_this_now, .ref a_this_of, .ref a_this_buffer, .ref a_this_made, .ref a_this_stackOne, .ref a_this_stackOther, .ref a_this_stackLong, .ref a_this_left, .int f_this_entryMany, .ref a_this_entryFamily, .ref a_this_entryOf, .ref a_this_entryRank])), (a_this_buffer, .inl (cI, 60, .inl c_this_buffer)), (a_this_left, .inl (cI, 4, .inl c_this_left)), (a_this_made, .inl (cI, 60, .inl c_this_made)), (a_this_of, .inl (cI, 4, .inl c_this_of)), (a_this_stackLong, .inl (cJ, 64, .inr (.inl c_this_stackLong))), (a_this_stackOne, .inl (cI, 64, .inl c_this_stackOne))]) (va_runS (As := [.long v_p3.toInt64, .long (0 : Int64), .long (20 : Int64)]) (rest := []) hF (mtX10_within l D cI cJ cO PL _ v_p3.toInt64 (0 : Int64) (20 : Int64) r_30 hc_30) (va_cwS 3 htc (rk_gVS w_4_50 w_4_51 w_1_7 w_4_52) rfl rfl rfl (by decide +kernel) ⟨(Nat.le_of_ble_eq_true rfl), (Nat.le_of_ble_eq_true rfl)⟩) (rk_preS hP hD hS hR hn hPL hnl hV [] [] rfl (by decide) rfl (by decide)) rfl rfl hl.1 rfl (lv_room (Nat.le_of_ble_eq_true rfl)) dX10_selectArrangements_30 ⟨(Nat.le_of_ble_eq_true rfl), (Nat.le_of_ble_eq_true rfl)⟩) hP hD hS hA hR0 hn [] [0, 1, 2, 3, 4, 5, 6] rfl rfl (by decide) (by decide) (fun H locs hP hD hS hR => ?_)
      have hP : va_P D vwCl [(a_this, .inr (9, [.ref a_this_chosen, .ref a_this_factorial, .ref a_this_catalan, .ref a_this_parted, .ref a_this_closed, .int f_this_now, .ref a_this_of, .ref a_this_buffer, .ref a_this_made, .ref a_this_stackOne, .ref a_this_stackOther, .ref a_this_stackLong, .ref a_this_left, .int f_this_entryMany, .ref a_this_entryFamily, .ref a_this_entryOf, .ref a_this_entryRank])), (a_this_buffer, .inl (cI, 60, .inl c_this_buffer)), (a_this_left, .inl (cI, 4, .inl c_this_left)), (a_this_made, .inl (cI, 60, .inl c_this_made)), (a_this_of, .inl (cI, 4, .inl c_this_of)), (a_this_stackLong, .inl (cJ, 64, .inr (.inl c_this_stackLong))), (a_this_stackOne, .inl (cI, 64, .inl c_this_stackOne))] H := hP
      have hD : va_D A [(a_this, .inr (9, [.ref a_this_chosen, .ref a_this_factorial, .ref a_this_catalan, .ref a_this_parted, .ref a_this_closed, .int f_this_now, .ref a_this_of, .ref a_this_buffer, .ref a_this_made, .ref a_this_stackOne, .ref a_this_stackOther, .ref a_this_stackLong, .ref a_this_left, .int f_this_entryMany, .ref a_this_entryFamily, .ref a_this_entryOf, .ref a_this_entryRank])), (a_this_buffer, .inl (cI, 60, .inl c_this_buffer)), (a_this_left, .inl (cI, 4, .inl c_this_left)), (a_this_made, .inl (cI, 60, .inl c_this_made)), (a_this_of, .inl (cI, 4, .inl c_this_of)), (a_this_stackLong, .inl (cJ, 64, .inr (.inl c_this_stackLong))), (a_this_stackOne, .inl (cI, 64, .inl c_this_stackOne))] := hD
      refine lv_if_eq (tgt := 53) hx hb dX10_selectArrangements_33 (by decide) (fun hc5 => ?_) (fun hc5 => ?_)
      · have h := rk_if hc5 h
        exact B53  h _ _ hP hD hS _ hl
      · have h := rk_nif hc5 h
        refine lv_iload hx hb dX10_selectArrangements_36 (lv_at hl 4 rfl) ?_
        refine lv_i2l hx hb dX10_selectArrangements_38 rfl ?_
        refine lv_lconst (v := 0) hx hb dX10_selectArrangements_39 (by decide) ?_
        refine lv_ldc2 (v := (20 : Int64)) hx hb hown (htc _ w_4_126) dX10_selectArrangements_40 ?_
        obtain ⟨r_43, hc_43, h⟩ := rk_bd h
        refine rk_i (wr := [(a_this, .inr (9, [.ref a_this_chosen, .ref a_this_factorial, .ref a_this_catalan, .ref a_this_parted, .ref a_this_closed, .int f_this_now, .ref a_this_of, .ref a_this_buffer, .ref a_this_made, .ref a_this_stackOne, .ref a_this_stackOther, .ref a_this_stackLong, .ref a_this_left, .int f_this_entryMany, .ref a_this_entryFamily, .ref a_this_entryOf, .ref a_this_entryRank])), (a_this_buffer, .inl (cI, 60, .inl c_this_buffer)), (a_this_left, .inl (cI, 4, .inl c_this_left)), (a_this_made, .inl (cI, 60, .inl c_this_made)), (a_this_of, .inl (cI, 4, .inl c_this_of)), (a_this_stackLong, .inl (cJ, 64, .inr (.inl c_this_stackLong))), (a_this_stackOne, .inl (cI, 64, .inl c_this_stackOne))]) (va_runS (As := [.long v_p4.toInt64, .long (0 : Int64), .long (20 : Int64)]) (rest := []) hF (mtX10_within l D cI cJ cO PL _ v_p4.toInt64 (0 : Int64) (20 : Int64) r_43 hc_43) (va_cwS 3 htc (rk_gVS w_4_50 w_4_51 w_1_7 w_4_52) rfl rfl rfl (by decide +kernel) ⟨(Nat.le_of_ble_eq_true rfl), (Nat.le_of_ble_eq_true rfl)⟩) (rk_preS hP hD hS hR hn hPL hnl hV [] [] rfl (by decide) rfl (by decide)) rfl rfl hl.1 rfl (lv_room (Nat.le_of_ble_eq_true rfl)) dX10_selectArrangements_43 ⟨(Nat.le_of_ble_eq_true rfl), (Nat.le_of_ble_eq_true rfl)⟩) hP hD hS hA hR0 hn [] [0, 1, 2, 3, 4, 5, 6] rfl rfl (by decide) (by decide) (fun H locs hP hD hS hR => ?_)
        have hP : va_P D vwCl [(a_this, .inr (9, [.ref a_this_chosen, .ref a_this_factorial, .ref a_this_catalan, .ref a_this_parted, .ref a_this_closed, .int f_this_now, .ref a_this_of, .ref a_this_buffer, .ref a_this_made, .ref a_this_stackOne, .ref a_this_stackOther, .ref a_this_stackLong, .ref a_this_left, .int f_this_entryMany, .ref a_this_entryFamily, .ref a_this_entryOf, .ref a_this_entryRank])), (a_this_buffer, .inl (cI, 60, .inl c_this_buffer)), (a_this_left, .inl (cI, 4, .inl c_this_left)), (a_this_made, .inl (cI, 60, .inl c_this_made)), (a_this_of, .inl (cI, 4, .inl c_this_of)), (a_this_stackLong, .inl (cJ, 64, .inr (.inl c_this_stackLong))), (a_this_stackOne, .inl (cI, 64, .inl c_this_stackOne))] H := hP
        have hD : va_D A [(a_this, .inr (9, [.ref a_this_chosen, .ref a_this_factorial, .ref a_this_catalan, .ref a_this_parted, .ref a_this_closed, .int f_this_now, .ref a_this_of, .ref a_this_buffer, .ref a_this_made, .ref a_this_stackOne, .ref a_this_stackOther, .ref a_this_stackLong, .ref a_this_left, .int f_this_entryMany, .ref a_this_entryFamily, .ref a_this_entryOf, .ref a_this_entryRank])), (a_this_buffer, .inl (cI, 60, .inl c_this_buffer)), (a_this_left, .inl (cI, 4, .inl c_this_left)), (a_this_made, .inl (cI, 60, .inl c_this_made)), (a_this_of, .inl (cI, 4, .inl c_this_of)), (a_this_stackLong, .inl (cJ, 64, .inr (.inl c_this_stackLong))), (a_this_stackOne, .inl (cI, 64, .inl c_this_stackOne))] := hD
        refine lv_if_eq (tgt := 53) hx hb dX10_selectArrangements_46 (by decide) (fun hc6 => ?_) (fun hc6 => ?_)
        · have h := rk_if hc6 h
          exact B53  h _ _ hP hD hS _ hl
        · have h := rk_nif hc6 h
          refine lv_iconst (v := 1) hx hb dX10_selectArrangements_49 (by decide) ?_
          refine lv_goto (tgt := 54) hx hb dX10_selectArrangements_50 (by decide) ?_
          exact B54 (1 : Int32) h _ _ hP hD hS _ hl
set_option maxHeartbeats 4000000 in
set_option maxRecDepth 100000 in
theorem mtX10_family (l : Launch) (D : va_G) (cI cJ cO : ClassId) (PL : va_W) (sz : Nat) (a_this : Nat) (a_this_chosen : Nat) (a_this_factorial : Nat) (a_this_catalan : Nat) (a_this_parted : Nat) (a_this_closed : Nat) (f_this_now : Int32) (a_this_of : Nat) (a_this_buffer : Nat) (a_this_made : Nat) (a_this_stackOne : Nat) (a_this_stackOther : Nat) (a_this_stackLong : Nat) (a_this_left : Nat) (f_this_entryMany : Int32) (a_this_entryFamily : Nat) (a_this_entryOf : Nat) (a_this_entryRank : Nat) (r0 : Int32) (h : fX10_family f_this_now = some r0) : Met l yX10_family (rk_w yX10_family cX10_family 1 (some .int)) rmX10_family (va_Pc [.ref a_this] (rk_B D (rk_TY cI cJ cO) [] [(a_this, .inr (9, [.ref a_this_chosen, .ref a_this_factorial, .ref a_this_catalan, .ref a_this_parted, .ref a_this_closed, .int f_this_now, .ref a_this_of, .ref a_this_buffer, .ref a_this_made, .ref a_this_stackOne, .ref a_this_stackOther, .ref a_this_stackLong, .ref a_this_left, .int f_this_entryMany, .ref a_this_entryFamily, .ref a_this_entryOf, .ref a_this_entryRank]))] PL sz)) (rk_Qi r0 D [] [] sz) 0 0 (va_A [] sz) := by
  refine rk_meti h (fun x : Int32 => x) (fun x => []) (by decide) (Nat.le_of_ble_eq_true rfl) ?_
  intro p e s m args below meth c A ls Q hret hname hF hP hD hA hV hR0 hn hPL hnl hl h hS
  have hx := hF.1
  have hb := hF.2.1
  have hml := hF.2.2.1
  have hown : s.vm.findClass RX10 = some m.cls := hF.2.2.2.1
  have htc := hF.2.2.2.2
  have hP : va_P D vwCl [] s.heap := hP
  have hD : va_D A [] := hD
  have hR0 : va_P D vwCl [(a_this, .inr (9, [.ref a_this_chosen, .ref a_this_factorial, .ref a_this_catalan, .ref a_this_parted, .ref a_this_closed, .int f_this_now, .ref a_this_of, .ref a_this_buffer, .ref a_this_made, .ref a_this_stackOne, .ref a_this_stackOther, .ref a_this_stackLong, .ref a_this_left, .int f_this_entryMany, .ref a_this_entryFamily, .ref a_this_entryOf, .ref a_this_entryRank]))] s.heap := hR0
  have hR := hR0
  have hl : lv_has ls 1 [(0, .ref a_this)] := hl
  unfold fX10_family at h
  refine lv_aload_n hx hb dX10_family_0 rfl (lv_at hl 0 rfl) ?_
  refine va_get (D := D) (ci := 9) (v := .int f_this_now) (C := RX10) (T := TX10) (N := 17) hx hb htc inX10 hown hV.1 hR 0 rfl rfl 5 (by decide) (htc _ w_3_238) (fun _ h9 => h9) rfl dX10_family_1 ?_
  exact hret f_this_now _ _ _ _ h dX10_family_4 hP hD hS
set_option maxHeartbeats 4000000 in
set_option maxRecDepth 100000 in
theorem mtX10_parameter (l : Launch) (D : va_G) (cI cJ cO : ClassId) (PL : va_W) (sz : Nat) (a_this : Nat) (a_this_chosen : Nat) (a_this_factorial : Nat) (a_this_catalan : Nat) (a_this_parted : Nat) (a_this_closed : Nat) (f_this_now : Int32) (a_this_of : Nat) (a_this_buffer : Nat) (a_this_made : Nat) (a_this_stackOne : Nat) (a_this_stackOther : Nat) (a_this_stackLong : Nat) (a_this_left : Nat) (f_this_entryMany : Int32) (a_this_entryFamily : Nat) (a_this_entryOf : Nat) (a_this_entryRank : Nat) (c_this_of : Nat → Int32) (v_p1 : Int32) (r0 : Int32) (h : fX10_parameter c_this_of v_p1 = some r0) : Met l yX10_parameter (rk_w yX10_parameter cX10_parameter 2 (some .int)) rmX10_parameter (va_Pc [.ref a_this, .int v_p1] (rk_B D (rk_TY cI cJ cO) [] [(a_this, .inr (9, [.ref a_this_chosen, .ref a_this_factorial, .ref a_this_catalan, .ref a_this_parted, .ref a_this_closed, .int f_this_now, .ref a_this_of, .ref a_this_buffer, .ref a_this_made, .ref a_this_stackOne, .ref a_this_stackOther, .ref a_this_stackLong, .ref a_this_left, .int f_this_entryMany, .ref a_this_entryFamily, .ref a_this_entryOf, .ref a_this_entryRank])), (a_this_of, .inl (cI, 4, .inl c_this_of))] PL sz)) (rk_Qi r0 D [] [] sz) 0 0 (va_A [] sz) := by
  refine rk_meti h (fun x : Int32 => x) (fun x => []) (by decide) (Nat.le_of_ble_eq_true rfl) ?_
  intro p e s m args below meth c A ls Q hret hname hF hP hD hA hV hR0 hn hPL hnl hl h hS
  have hx := hF.1
  have hb := hF.2.1
  have hml := hF.2.2.1
  have hown : s.vm.findClass RX10 = some m.cls := hF.2.2.2.1
  have htc := hF.2.2.2.2
  have hP : va_P D vwCl [] s.heap := hP
  have hD : va_D A [] := hD
  have hR0 : va_P D vwCl [(a_this, .inr (9, [.ref a_this_chosen, .ref a_this_factorial, .ref a_this_catalan, .ref a_this_parted, .ref a_this_closed, .int f_this_now, .ref a_this_of, .ref a_this_buffer, .ref a_this_made, .ref a_this_stackOne, .ref a_this_stackOther, .ref a_this_stackLong, .ref a_this_left, .int f_this_entryMany, .ref a_this_entryFamily, .ref a_this_entryOf, .ref a_this_entryRank])), (a_this_of, .inl (cI, 4, .inl c_this_of))] s.heap := hR0
  have hR := hR0
  have hl : lv_has ls 2 [(0, .ref a_this), (1, .int v_p1)] := hl
  unfold fX10_parameter at h
  refine lv_iload_n hx hb dX10_parameter_0 rfl (lv_at hl 1 rfl) ?_
  refine lv_i2l hx hb dX10_parameter_1 rfl ?_
  refine lv_lconst (v := 0) hx hb dX10_parameter_2 (by decide) ?_
  refine lv_ldc2 (v := (3 : Int64)) hx hb hown (htc _ w_4_152) dX10_parameter_3 ?_
  obtain ⟨r_6, hc_6, h⟩ := rk_bd h
  refine rk_i (wr := []) (va_runS (As := [.long v_p1.toInt64, .long (0 : Int64), .long (3 : Int64)]) (rest := []) hF (mtX10_within l D cI cJ cO PL _ v_p1.toInt64 (0 : Int64) (3 : Int64) r_6 hc_6) (va_cwS 3 htc (rk_gVS w_4_50 w_4_51 w_1_7 w_4_52) rfl rfl rfl (by decide +kernel) ⟨(Nat.le_of_ble_eq_true rfl), (Nat.le_of_ble_eq_true rfl)⟩) (rk_preS hP hD hS hR hn hPL hnl hV [] [] rfl (by decide) rfl (by decide)) rfl rfl hl.1 rfl (lv_room (Nat.le_of_ble_eq_true rfl)) dX10_parameter_6 ⟨(Nat.le_of_ble_eq_true rfl), (Nat.le_of_ble_eq_true rfl)⟩) hP hD hS hA hR0 hn [] [] rfl rfl (by decide) (by decide) (fun H locs hP hD hS hR => ?_)
  have hP : va_P D vwCl [] H := hP
  have hD : va_D A [] := hD
  refine lv_if_eq (tgt := 21) hx hb dX10_parameter_9 (by decide) (fun hc1 => ?_) (fun hc1 => ?_)
  · have h := rk_if hc1 h
    refine lv_iconst (v := (-1)) hx hb dX10_parameter_21 (by decide) ?_
    exact hret (-1 : Int32) _ _ _ _ h dX10_parameter_22 hP hD hS
  · have h := rk_nif hc1 h
    refine lv_aload_n hx hb dX10_parameter_12 rfl (lv_at hl 0 rfl) ?_
    refine va_get (D := D) (ci := 9) (v := .ref a_this_of) (C := RX10) (T := TX10) (N := 17) hx hb htc inX10 hown hV.1 hR 0 rfl rfl 6 (by decide) (htc _ w_3_239) (fun _ h9 => h9) rfl dX10_parameter_13 ?_
    refine lv_iload_n hx hb dX10_parameter_16 rfl (lv_at hl 1 rfl) ?_
    obtain ⟨hg2, h⟩ := rk_gd h
    refine va_iald hx hb hV.1 hR 1 0 rfl rfl hg2 dX10_parameter_17 ?_
    refine lv_goto (tgt := 22) hx hb dX10_parameter_18 (by decide) ?_
    exact hret (c_this_of v_p1.toNatClampNeg) _ _ _ _ h dX10_parameter_22 hP hD hS
set_option maxHeartbeats 4000000 in
set_option maxRecDepth 100000 in
theorem mtX10_length (l : Launch) (D : va_G) (cI cJ cO : ClassId) (PL : va_W) (sz : Nat) (a_this : Nat) (a_this_chosen : Nat) (a_this_factorial : Nat) (a_this_catalan : Nat) (a_this_parted : Nat) (a_this_closed : Nat) (f_this_now : Int32) (a_this_of : Nat) (a_this_buffer : Nat) (a_this_made : Nat) (a_this_stackOne : Nat) (a_this_stackOther : Nat) (a_this_stackLong : Nat) (a_this_left : Nat) (f_this_entryMany : Int32) (a_this_entryFamily : Nat) (a_this_entryOf : Nat) (a_this_entryRank : Nat) (c_this_of : Nat → Int32) (r0 : Int32) (h : fX10_length f_this_now c_this_of = some r0) : Met l yX10_length (rk_w yX10_length cX10_length 1 (some .int)) rmX10_length (va_Pc [.ref a_this] (rk_B D (rk_TY cI cJ cO) [] [(a_this, .inr (9, [.ref a_this_chosen, .ref a_this_factorial, .ref a_this_catalan, .ref a_this_parted, .ref a_this_closed, .int f_this_now, .ref a_this_of, .ref a_this_buffer, .ref a_this_made, .ref a_this_stackOne, .ref a_this_stackOther, .ref a_this_stackLong, .ref a_this_left, .int f_this_entryMany, .ref a_this_entryFamily, .ref a_this_entryOf, .ref a_this_entryRank])), (a_this_of, .inl (cI, 4, .inl c_this_of))] PL sz)) (rk_Qi r0 D [] [] sz) 0 0 (va_A [] sz) := by
  refine rk_meti h (fun x : Int32 => x) (fun x => []) (by decide) (Nat.le_of_ble_eq_true rfl) ?_
  intro p e s m args below meth c A ls Q hret hname hF hP hD hA hV hR0 hn hPL hnl hl h hS
  have hx := hF.1
  have hb := hF.2.1
  have hml := hF.2.2.1
  have hown : s.vm.findClass RX10 = some m.cls := hF.2.2.2.1
  have htc := hF.2.2.2.2
  have hP : va_P D vwCl [] s.heap := hP
  have hD : va_D A [] := hD
  have hR0 : va_P D vwCl [(a_this, .inr (9, [.ref a_this_chosen, .ref a_this_factorial, .ref a_this_catalan, .ref a_this_parted, .ref a_this_closed, .int f_this_now, .ref a_this_of, .ref a_this_buffer, .ref a_this_made, .ref a_this_stackOne, .ref a_this_stackOther, .ref a_this_stackLong, .ref a_this_left, .int f_this_entryMany, .ref a_this_entryFamily, .ref a_this_entryOf, .ref a_this_entryRank])), (a_this_of, .inl (cI, 4, .inl c_this_of))] s.heap := hR0
  have hR := hR0
  have hl : lv_has ls 1 [(0, .ref a_this)] := hl
  unfold fX10_length at h
  refine lv_aload_n hx hb dX10_length_0 rfl (lv_at hl 0 rfl) ?_
  obtain ⟨r_1, hc_1, h⟩ := rk_bd h
  refine rk_i (wr := []) (va_runV (C := RX10) (As := []) (rest := []) hF (mtX10_longNow l D cI cJ cO PL _ a_this a_this_chosen a_this_factorial a_this_catalan a_this_parted a_this_closed f_this_now a_this_of a_this_buffer a_this_made a_this_stackOne a_this_stackOther a_this_stackLong a_this_left f_this_entryMany a_this_entryFamily a_this_entryOf a_this_entryRank c_this_of r_1 hc_1) (cwV 0 htc (rk_gV w_4_106 w_4_108 ws_48 w_1_7 w_4_109) rfl rfl rfl (by decide +kernel) ⟨(Nat.le_of_ble_eq_true rfl), (Nat.le_of_ble_eq_true rfl)⟩) (rk_preV (va_recv hV.1 hR (ci := 9) (q0 := 0) rfl rfl) (rk_preS hP hD hS hR hn hPL hnl hV [] [(false, 0), (false, 1)] rfl (by decide) rfl (by decide))) rfl rfl hl.1 rfl (lv_room (Nat.le_of_ble_eq_true rfl)) dX10_length_1 ⟨(Nat.le_of_ble_eq_true rfl), (Nat.le_of_ble_eq_true rfl)⟩) hP hD hS hA hR0 hn [] [] rfl rfl (by decide) (by decide) (fun H locs hP hD hS hR => ?_)
  have hP : va_P D vwCl [] H := hP
  have hD : va_D A [] := hD
  exact hret r_1 _ _ _ _ h dX10_length_4 hP hD hS
set_option maxHeartbeats 4000000 in
set_option maxRecDepth 100000 in
theorem mtX10_count (l : Launch) (D : va_G) (cI cJ cO : ClassId) (PL : va_W) (sz : Nat) (a_this : Nat) (a_this_chosen : Nat) (a_this_factorial : Nat) (a_this_catalan : Nat) (a_this_parted : Nat) (a_this_closed : Nat) (f_this_now : Int32) (a_this_of : Nat) (a_this_buffer : Nat) (a_this_made : Nat) (a_this_stackOne : Nat) (a_this_stackOther : Nat) (a_this_stackLong : Nat) (a_this_left : Nat) (f_this_entryMany : Int32) (a_this_entryFamily : Nat) (a_this_entryOf : Nat) (a_this_entryRank : Nat) (c_this_catalan : Nat → Int64) (c_this_chosen : Nat → Int64) (c_this_closed : Nat → Int64) (c_this_factorial : Nat → Int64) (c_this_of : Nat → Int32) (c_this_parted : Nat → Int64) (r0 : Int64) (h : fX10_count f_this_now c_this_catalan c_this_chosen c_this_closed c_this_factorial c_this_of c_this_parted = some r0) : Met l yX10_count (rk_w yX10_count cX10_count 1 (some .long)) rmX10_count (va_Pc [.ref a_this] (rk_B D (rk_TY cI cJ cO) [] [(a_this, .inr (9, [.ref a_this_chosen, .ref a_this_factorial, .ref a_this_catalan, .ref a_this_parted, .ref a_this_closed, .int f_this_now, .ref a_this_of, .ref a_this_buffer, .ref a_this_made, .ref a_this_stackOne, .ref a_this_stackOther, .ref a_this_stackLong, .ref a_this_left, .int f_this_entryMany, .ref a_this_entryFamily, .ref a_this_entryOf, .ref a_this_entryRank])), (a_this_catalan, .inl (cJ, 31, .inr (.inl c_this_catalan))), (a_this_chosen, .inl (cJ, 3721, .inr (.inl c_this_chosen))), (a_this_closed, .inl (cJ, 1722, .inr (.inl c_this_closed))), (a_this_factorial, .inl (cJ, 21, .inr (.inl c_this_factorial))), (a_this_of, .inl (cI, 4, .inl c_this_of)), (a_this_parted, .inl (cJ, 3721, .inr (.inl c_this_parted)))] PL sz)) (rk_Ql r0 D [] [] sz) 0 0 (va_A [] sz) := by
  refine rk_metl h (fun x : Int64 => x) (fun x => []) (by decide) (Nat.le_of_ble_eq_true rfl) ?_
  intro p e s m args below meth c A ls Q hret hname hF hP hD hA hV hR0 hn hPL hnl hl h hS
  have hx := hF.1
  have hb := hF.2.1
  have hml := hF.2.2.1
  have hown : s.vm.findClass RX10 = some m.cls := hF.2.2.2.1
  have htc := hF.2.2.2.2
  have hP : va_P D vwCl [] s.heap := hP
  have hD : va_D A [] := hD
  have hR0 : va_P D vwCl [(a_this, .inr (9, [.ref a_this_chosen, .ref a_this_factorial, .ref a_this_catalan, .ref a_this_parted, .ref a_this_closed, .int f_this_now, .ref a_this_of, .ref a_this_buffer, .ref a_this_made, .ref a_this_stackOne, .ref a_this_stackOther, .ref a_this_stackLong, .ref a_this_left, .int f_this_entryMany, .ref a_this_entryFamily, .ref a_this_entryOf, .ref a_this_entryRank])), (a_this_catalan, .inl (cJ, 31, .inr (.inl c_this_catalan))), (a_this_chosen, .inl (cJ, 3721, .inr (.inl c_this_chosen))), (a_this_closed, .inl (cJ, 1722, .inr (.inl c_this_closed))), (a_this_factorial, .inl (cJ, 21, .inr (.inl c_this_factorial))), (a_this_of, .inl (cI, 4, .inl c_this_of)), (a_this_parted, .inl (cJ, 3721, .inr (.inl c_this_parted)))] s.heap := hR0
  have hR := hR0
  have hl : lv_has ls 1 [(0, .ref a_this)] := hl
  unfold fX10_count at h
  refine lv_aload_n hx hb dX10_count_0 rfl (lv_at hl 0 rfl) ?_
  obtain ⟨r_1, hc_1, h⟩ := rk_bd h
  refine rk_l (wr := []) (va_runV (C := RX10) (As := []) (rest := []) hF (mtX10_manyNow l D cI cJ cO PL _ a_this a_this_chosen a_this_factorial a_this_catalan a_this_parted a_this_closed f_this_now a_this_of a_this_buffer a_this_made a_this_stackOne a_this_stackOther a_this_stackLong a_this_left f_this_entryMany a_this_entryFamily a_this_entryOf a_this_entryRank c_this_catalan c_this_chosen c_this_closed c_this_factorial c_this_of c_this_parted r_1 hc_1) (cwV 0 htc (rk_gV w_4_161 w_4_163 ws_52 w_1_7 w_4_164) rfl rfl rfl (by decide +kernel) ⟨(Nat.le_of_ble_eq_true rfl), (Nat.le_of_ble_eq_true rfl)⟩) (rk_preV (va_recv hV.1 hR (ci := 9) (q0 := 0) rfl rfl) (rk_preS hP hD hS hR hn hPL hnl hV [] [(false, 0), (false, 1), (false, 2), (false, 3), (false, 4), (false, 5), (false, 6)] rfl (by decide) rfl (by decide))) rfl rfl hl.1 rfl (lv_room (Nat.le_of_ble_eq_true rfl)) dX10_count_1 ⟨(Nat.le_of_ble_eq_true rfl), (Nat.le_of_ble_eq_true rfl)⟩) hP hD hS hA hR0 hn [] [] rfl rfl (by decide) (by decide) (fun H locs hP hD hS hR => ?_)
  have hP : va_P D vwCl [] H := hP
  have hD : va_D A [] := hD
  exact hret r_1 _ _ _ _ h dX10_count_4 hP hD hS
set_option maxHeartbeats 4000000 in
set_option maxRecDepth 100000 in
theorem mtX10_put (l : Launch) (D : va_G) (cI cJ cO : ClassId) (PL : va_W) (sz : Nat) (a_this : Nat) (a_this_chosen : Nat) (a_this_factorial : Nat) (a_this_catalan : Nat) (a_this_parted : Nat) (a_this_closed : Nat) (f_this_now : Int32) (a_this_of : Nat) (a_this_buffer : Nat) (a_this_made : Nat) (a_this_stackOne : Nat) (a_this_stackOther : Nat) (a_this_stackLong : Nat) (a_this_left : Nat) (f_this_entryMany : Int32) (a_this_entryFamily : Nat) (a_this_entryOf : Nat) (a_this_entryRank : Nat) (c_this_buffer : Nat → Int32) (v_p1 : Int32) (v_p2 : Int32) (r0 : Int32 × (Nat → Int32)) (h : fX10_put c_this_buffer v_p1 v_p2 = some r0) : Met l yX10_put (rk_w yX10_put cX10_put 4 (some .int)) rmX10_put (va_Pc [.ref a_this, .int v_p1, .int v_p2] (rk_B D (rk_TY cI cJ cO) [(a_this_buffer, .inl (cI, 60, .inl c_this_buffer))] [(a_this, .inr (9, [.ref a_this_chosen, .ref a_this_factorial, .ref a_this_catalan, .ref a_this_parted, .ref a_this_closed, .int f_this_now, .ref a_this_of, .ref a_this_buffer, .ref a_this_made, .ref a_this_stackOne, .ref a_this_stackOther, .ref a_this_stackLong, .ref a_this_left, .int f_this_entryMany, .ref a_this_entryFamily, .ref a_this_entryOf, .ref a_this_entryRank]))] PL sz)) (rk_Qi r0.1 D [(a_this_buffer, .inl (cI, 60, .inl r0.2))] [(a_this_buffer, .inl (cI, 60, .inl c_this_buffer))] sz) 0 0 (va_A [(a_this_buffer, .inl (cI, 60, .inl c_this_buffer))] sz) := by
  refine rk_meti h (fun x : Int32 × (Nat → Int32) => x.1) (fun x => [(a_this_buffer, .inl (cI, 60, .inl x.2))]) (by decide) (Nat.le_of_ble_eq_true rfl) ?_
  intro p e s m args below meth c A ls Q hret hname hF hP hD hA hV hR0 hn hPL hnl hl h hS
  have hx := hF.1
  have hb := hF.2.1
  have hml := hF.2.2.1
  have hown : s.vm.findClass RX10 = some m.cls := hF.2.2.2.1
  have htc := hF.2.2.2.2
  have hP : va_P D vwCl [(a_this_buffer, .inl (cI, 60, .inl c_this_buffer))] s.heap := hP
  have hD : va_D A [(a_this_buffer, .inl (cI, 60, .inl c_this_buffer))] := hD
  have hR0 : va_P D vwCl [(a_this, .inr (9, [.ref a_this_chosen, .ref a_this_factorial, .ref a_this_catalan, .ref a_this_parted, .ref a_this_closed, .int f_this_now, .ref a_this_of, .ref a_this_buffer, .ref a_this_made, .ref a_this_stackOne, .ref a_this_stackOther, .ref a_this_stackLong, .ref a_this_left, .int f_this_entryMany, .ref a_this_entryFamily, .ref a_this_entryOf, .ref a_this_entryRank]))] s.heap := hR0
  have hR := hR0
  have hl : lv_has ls 4 [(0, .ref a_this), (1, .int v_p1), (2, .int v_p2)] := hl
  unfold fX10_put at h
  refine lv_iload_n hx hb dX10_put_0 rfl (lv_at hl 1 rfl) ?_
  refine lv_i2l hx hb dX10_put_1 rfl ?_
  refine lv_lconst (v := 0) hx hb dX10_put_2 (by decide) ?_
  refine lv_ldc2 (v := (59 : Int64)) hx hb hown (htc _ w_4_173) dX10_put_3 ?_
  obtain ⟨r_6, hc_6, h⟩ := rk_bd h
  refine rk_i (wr := [(a_this_buffer, .inl (cI, 60, .inl c_this_buffer))]) (va_runS (As := [.long v_p1.toInt64, .long (0 : Int64), .long (59 : Int64)]) (rest := []) hF (mtX10_within l D cI cJ cO PL _ v_p1.toInt64 (0 : Int64) (59 : Int64) r_6 hc_6) (va_cwS 3 htc (rk_gVS w_4_50 w_4_51 w_1_7 w_4_52) rfl rfl rfl (by decide +kernel) ⟨(Nat.le_of_ble_eq_true rfl), (Nat.le_of_ble_eq_true rfl)⟩) (rk_preS hP hD hS hR hn hPL hnl hV [] [] rfl (by decide) rfl (by decide)) rfl rfl hl.1 rfl (lv_room (Nat.le_of_ble_eq_true rfl)) dX10_put_6 ⟨(Nat.le_of_ble_eq_true rfl), (Nat.le_of_ble_eq_true rfl)⟩) hP hD hS hA hR0 hn [] [0] rfl rfl (by decide) (by decide) (fun H locs hP hD hS hR => ?_)
  have hP : va_P D vwCl [(a_this_buffer, .inl (cI, 60, .inl c_this_buffer))] H := hP
  have hD : va_D A [(a_this_buffer, .inl (cI, 60, .inl c_this_buffer))] := hD
  refine lv_if_eq (tgt := 26) hx hb dX10_put_9 (by decide) (fun hc1 => ?_) (fun hc1 => ?_)
  · have h := rk_if hc1 h
    refine lv_sipush (v := (-1001)) hx hb dX10_put_26 (by decide) ?_
    exact hret ((-1001 : Int32), c_this_buffer) _ _ _ _ h dX10_put_29 hP hD hS
  · have h := rk_nif hc1 h
    refine lv_iload_n hx hb dX10_put_12 rfl (lv_at hl 2 rfl) ?_
    refine lv_i2l hx hb dX10_put_13 rfl ?_
    refine lv_ldc2 (v := (-1000 : Int64)) hx hb hown (htc _ w_4_174) dX10_put_14 ?_
    refine lv_ldc2 (v := (1000 : Int64)) hx hb hown (htc _ w_4_175) dX10_put_17 ?_
    obtain ⟨r_20, hc_20, h⟩ := rk_bd h
    refine rk_i (wr := [(a_this_buffer, .inl (cI, 60, .inl c_this_buffer))]) (va_runS (As := [.long v_p2.toInt64, .long (-1000 : Int64), .long (1000 : Int64)]) (rest := []) hF (mtX10_within l D cI cJ cO PL _ v_p2.toInt64 (-1000 : Int64) (1000 : Int64) r_20 hc_20) (va_cwS 3 htc (rk_gVS w_4_50 w_4_51 w_1_7 w_4_52) rfl rfl rfl (by decide +kernel) ⟨(Nat.le_of_ble_eq_true rfl), (Nat.le_of_ble_eq_true rfl)⟩) (rk_preS hP hD hS hR hn hPL hnl hV [] [] rfl (by decide) rfl (by decide)) rfl rfl hl.1 rfl (lv_room (Nat.le_of_ble_eq_true rfl)) dX10_put_20 ⟨(Nat.le_of_ble_eq_true rfl), (Nat.le_of_ble_eq_true rfl)⟩) hP hD hS hA hR0 hn [] [0] rfl rfl (by decide) (by decide) (fun H locs hP hD hS hR => ?_)
    have hP : va_P D vwCl [(a_this_buffer, .inl (cI, 60, .inl c_this_buffer))] H := hP
    have hD : va_D A [(a_this_buffer, .inl (cI, 60, .inl c_this_buffer))] := hD
    refine lv_if_ne (tgt := 30) hx hb dX10_put_23 (by decide) (fun hc2 => ?_) (fun hc2 => ?_)
    · have h := rk_if hc2 h
      refine lv_aload_n hx hb dX10_put_30 rfl (lv_at hl 0 rfl) ?_
      refine va_get (D := D) (ci := 9) (v := .ref a_this_buffer) (C := RX10) (T := TX10) (N := 17) hx hb htc inX10 hown hV.1 hR 0 rfl rfl 7 (by decide) (htc _ w_4_0) (fun _ h9 => h9) rfl dX10_put_31 ?_
      refine lv_iload_n hx hb dX10_put_34 rfl (lv_at hl 1 rfl) ?_
      obtain ⟨hg3, h⟩ := rk_gd h
      refine va_iald hx hb hV.1 hP 0 0 rfl rfl hg3 dX10_put_35 ?_
      refine lv_istore_n (lv' := [(3, .int (c_this_buffer v_p1.toNatClampNeg)), (0, .ref a_this), (1, .int v_p1), (2, .int v_p2)]) hx hb dX10_put_36 rfl hl (by decide) rfl (fun ls hl => ?_)
      refine lv_aload_n hx hb dX10_put_37 rfl (lv_at hl 1 rfl) ?_
      refine va_get (D := D) (ci := 9) (v := .ref a_this_buffer) (C := RX10) (T := TX10) (N := 17) hx hb htc inX10 hown hV.1 hR 0 rfl rfl 7 (by decide) (htc _ w_4_0) (fun _ h9 => h9) rfl dX10_put_38 ?_
      refine lv_iload_n hx hb dX10_put_41 rfl (lv_at hl 2 rfl) ?_
      refine lv_iload_n hx hb dX10_put_42 rfl (lv_at hl 3 rfl) ?_
      refine va_iast hx hb hV.1 hP hD hS 0 0 rfl rfl hg3 dX10_put_43 (fun H locs hP hD hS => ?_)
      have hP : va_P D vwCl [(a_this_buffer, .inl (cI, 60, .inl (upd c_this_buffer v_p1.toNatClampNeg v_p2)))] H := hP
      have hD : va_D A [(a_this_buffer, .inl (cI, 60, .inl (upd c_this_buffer v_p1.toNatClampNeg v_p2)))] := hD
      have hR := rk_keep hR0 hn hS
      refine lv_iload_n hx hb dX10_put_44 rfl (lv_at hl 0 rfl) ?_
      exact hret ((c_this_buffer v_p1.toNatClampNeg), (upd c_this_buffer v_p1.toNatClampNeg v_p2)) _ _ _ _ h dX10_put_45 hP hD hS
    · have h := rk_nnif hc2 h
      refine lv_sipush (v := (-1001)) hx hb dX10_put_26 (by decide) ?_
      exact hret ((-1001 : Int32), c_this_buffer) _ _ _ _ h dX10_put_29 hP hD hS
set_option maxHeartbeats 4000000 in
set_option maxRecDepth 100000 in
theorem mtX10_get (l : Launch) (D : va_G) (cI cJ cO : ClassId) (PL : va_W) (sz : Nat) (a_this : Nat) (a_this_chosen : Nat) (a_this_factorial : Nat) (a_this_catalan : Nat) (a_this_parted : Nat) (a_this_closed : Nat) (f_this_now : Int32) (a_this_of : Nat) (a_this_buffer : Nat) (a_this_made : Nat) (a_this_stackOne : Nat) (a_this_stackOther : Nat) (a_this_stackLong : Nat) (a_this_left : Nat) (f_this_entryMany : Int32) (a_this_entryFamily : Nat) (a_this_entryOf : Nat) (a_this_entryRank : Nat) (c_this_buffer : Nat → Int32) (v_p1 : Int32) (r0 : Int32) (h : fX10_get c_this_buffer v_p1 = some r0) : Met l yX10_get (rk_w yX10_get cX10_get 2 (some .int)) rmX10_get (va_Pc [.ref a_this, .int v_p1] (rk_B D (rk_TY cI cJ cO) [] [(a_this, .inr (9, [.ref a_this_chosen, .ref a_this_factorial, .ref a_this_catalan, .ref a_this_parted, .ref a_this_closed, .int f_this_now, .ref a_this_of, .ref a_this_buffer, .ref a_this_made, .ref a_this_stackOne, .ref a_this_stackOther, .ref a_this_stackLong, .ref a_this_left, .int f_this_entryMany, .ref a_this_entryFamily, .ref a_this_entryOf, .ref a_this_entryRank])), (a_this_buffer, .inl (cI, 60, .inl c_this_buffer))] PL sz)) (rk_Qi r0 D [] [] sz) 0 0 (va_A [] sz) := by
  refine rk_meti h (fun x : Int32 => x) (fun x => []) (by decide) (Nat.le_of_ble_eq_true rfl) ?_
  intro p e s m args below meth c A ls Q hret hname hF hP hD hA hV hR0 hn hPL hnl hl h hS
  have hx := hF.1
  have hb := hF.2.1
  have hml := hF.2.2.1
  have hown : s.vm.findClass RX10 = some m.cls := hF.2.2.2.1
  have htc := hF.2.2.2.2
  have hP : va_P D vwCl [] s.heap := hP
  have hD : va_D A [] := hD
  have hR0 : va_P D vwCl [(a_this, .inr (9, [.ref a_this_chosen, .ref a_this_factorial, .ref a_this_catalan, .ref a_this_parted, .ref a_this_closed, .int f_this_now, .ref a_this_of, .ref a_this_buffer, .ref a_this_made, .ref a_this_stackOne, .ref a_this_stackOther, .ref a_this_stackLong, .ref a_this_left, .int f_this_entryMany, .ref a_this_entryFamily, .ref a_this_entryOf, .ref a_this_entryRank])), (a_this_buffer, .inl (cI, 60, .inl c_this_buffer))] s.heap := hR0
  have hR := hR0
  have hl : lv_has ls 2 [(0, .ref a_this), (1, .int v_p1)] := hl
  unfold fX10_get at h
  refine lv_iload_n hx hb dX10_get_0 rfl (lv_at hl 1 rfl) ?_
  refine lv_i2l hx hb dX10_get_1 rfl ?_
  refine lv_lconst (v := 0) hx hb dX10_get_2 (by decide) ?_
  refine lv_ldc2 (v := (59 : Int64)) hx hb hown (htc _ w_4_173) dX10_get_3 ?_
  obtain ⟨r_6, hc_6, h⟩ := rk_bd h
  refine rk_i (wr := []) (va_runS (As := [.long v_p1.toInt64, .long (0 : Int64), .long (59 : Int64)]) (rest := []) hF (mtX10_within l D cI cJ cO PL _ v_p1.toInt64 (0 : Int64) (59 : Int64) r_6 hc_6) (va_cwS 3 htc (rk_gVS w_4_50 w_4_51 w_1_7 w_4_52) rfl rfl rfl (by decide +kernel) ⟨(Nat.le_of_ble_eq_true rfl), (Nat.le_of_ble_eq_true rfl)⟩) (rk_preS hP hD hS hR hn hPL hnl hV [] [] rfl (by decide) rfl (by decide)) rfl rfl hl.1 rfl (lv_room (Nat.le_of_ble_eq_true rfl)) dX10_get_6 ⟨(Nat.le_of_ble_eq_true rfl), (Nat.le_of_ble_eq_true rfl)⟩) hP hD hS hA hR0 hn [] [] rfl rfl (by decide) (by decide) (fun H locs hP hD hS hR => ?_)
  have hP : va_P D vwCl [] H := hP
  have hD : va_D A [] := hD
  refine lv_if_eq (tgt := 21) hx hb dX10_get_9 (by decide) (fun hc1 => ?_) (fun hc1 => ?_)
  · have h := rk_if hc1 h
    refine lv_sipush (v := (-1001)) hx hb dX10_get_21 (by decide) ?_
    exact hret (-1001 : Int32) _ _ _ _ h dX10_get_24 hP hD hS
  · have h := rk_nif hc1 h
    refine lv_aload_n hx hb dX10_get_12 rfl (lv_at hl 0 rfl) ?_
    refine va_get (D := D) (ci := 9) (v := .ref a_this_buffer) (C := RX10) (T := TX10) (N := 17) hx hb htc inX10 hown hV.1 hR 0 rfl rfl 7 (by decide) (htc _ w_4_0) (fun _ h9 => h9) rfl dX10_get_13 ?_
    refine lv_iload_n hx hb dX10_get_16 rfl (lv_at hl 1 rfl) ?_
    obtain ⟨hg2, h⟩ := rk_gd h
    refine va_iald hx hb hV.1 hR 1 0 rfl rfl hg2 dX10_get_17 ?_
    refine lv_goto (tgt := 24) hx hb dX10_get_18 (by decide) ?_
    exact hret (c_this_buffer v_p1.toNatClampNeg) _ _ _ _ h dX10_get_24 hP hD hS
set_option maxHeartbeats 4000000 in
set_option maxRecDepth 100000 in
theorem mtX10_isSubset (l : Launch) (D : va_G) (cI cJ cO : ClassId) (PL : va_W) (sz : Nat) (a_this : Nat) (a_this_chosen : Nat) (a_this_factorial : Nat) (a_this_catalan : Nat) (a_this_parted : Nat) (a_this_closed : Nat) (f_this_now : Int32) (a_this_of : Nat) (a_this_buffer : Nat) (a_this_made : Nat) (a_this_stackOne : Nat) (a_this_stackOther : Nat) (a_this_stackLong : Nat) (a_this_left : Nat) (f_this_entryMany : Int32) (a_this_entryFamily : Nat) (a_this_entryOf : Nat) (a_this_entryRank : Nat) (c_this_buffer : Nat → Int32) (c_this_of : Nat → Int32) (r0 : Int32) (h : fX10_isSubset c_this_buffer c_this_of = some r0) : Met l yX10_isSubset (rk_w yX10_isSubset cX10_isSubset 3 (some .boolean)) rmX10_isSubset (va_Pc [.ref a_this] (rk_B D (rk_TY cI cJ cO) [] [(a_this, .inr (9, [.ref a_this_chosen, .ref a_this_factorial, .ref a_this_catalan, .ref a_this_parted, .ref a_this_closed, .int f_this_now, .ref a_this_of, .ref a_this_buffer, .ref a_this_made, .ref a_this_stackOne, .ref a_this_stackOther, .ref a_this_stackLong, .ref a_this_left, .int f_this_entryMany, .ref a_this_entryFamily, .ref a_this_entryOf, .ref a_this_entryRank])), (a_this_buffer, .inl (cI, 60, .inl c_this_buffer)), (a_this_of, .inl (cI, 4, .inl c_this_of))] PL sz)) (rk_Qi r0 D [] [] sz) 0 0 (va_A [] sz) := by
  refine rk_metz h (fun x : Int32 => x) (fun x => []) (by decide) (Nat.le_of_ble_eq_true rfl) ?_
  intro p e s m args below meth c A ls Q hret hname hF hP hD hA hV hR0 hn hPL hnl hl h hS
  have hx := hF.1
  have hb := hF.2.1
  have hml := hF.2.2.1
  have hown : s.vm.findClass RX10 = some m.cls := hF.2.2.2.1
  have htc := hF.2.2.2.2
  have hP : va_P D vwCl [] s.heap := hP
  have hD : va_D A [] := hD
  have hR0 : va_P D vwCl [(a_this, .inr (9, [.ref a_this_chosen, .ref a_this_factorial, .ref a_this_catalan, .ref a_this_parted, .ref a_this_closed, .int f_this_now, .ref a_this_of, .ref a_this_buffer, .ref a_this_made, .ref a_this_stackOne, .ref a_this_stackOther, .ref a_this_stackLong, .ref a_this_left, .int f_this_entryMany, .ref a_this_entryFamily, .ref a_this_entryOf, .ref a_this_entryRank])), (a_this_buffer, .inl (cI, 60, .inl c_this_buffer)), (a_this_of, .inl (cI, 4, .inl c_this_of))] s.heap := hR0
  have hR := hR0
  have hl : lv_has ls 3 [(0, .ref a_this)] := hl
  unfold fX10_isSubset at h
  refine lv_iconst (v := (-1)) hx hb dX10_isSubset_0 (by decide) ?_
  refine lv_istore_n (lv' := [(1, .int (-1 : Int32)), (0, .ref a_this)]) hx hb dX10_isSubset_1 rfl hl (by decide) rfl (fun ls hl => ?_)
  refine lv_iconst (v := 0) hx hb dX10_isSubset_2 (by decide) ?_
  refine lv_istore_n (lv' := [(2, .int (0 : Int32)), (1, .int (-1 : Int32)), (0, .ref a_this)]) hx hb dX10_isSubset_3 rfl hl (by decide) rfl (fun ls hl => ?_)
  have L4 : ∀ (n4 : Nat) (b4_l1 : Int32) (b4_l2 : Int32), rk_it2 (fX10_isSubset_L4 c_this_buffer c_this_of) n4 b4_l1 b4_l2 = some r0 → ∀ (H : Heap) (locs : List Loc), va_P D vwCl [] H → va_D A [] → va_S A s.heap H locs → ∀ (ls : Array Slot), lv_has ls 3 [(0, .ref a_this), (1, .int b4_l1), (2, .int b4_l2)] → W p l e rmX10_isSubset s m args below meth c H locs 0 0 Q (F0 m 4 ls []) := by
    intro n4
    induction n4 with
    | zero => intro b4_l1 b4_l2 h; exact rk_no h
    | succ n4 ih4 =>
      intro b4_l1 b4_l2 h H locs hP hD hS ls hl
      have h : fX10_isSubset_L4 c_this_buffer c_this_of (rk_it2 (fX10_isSubset_L4 c_this_buffer c_this_of) n4) b4_l1 b4_l2 = some r0 := h
      unfold fX10_isSubset_L4 at h
      have hR := rk_keep hR0 hn hS
      refine lv_iload_n hx hb dX10_isSubset_4 rfl (lv_at hl 2 rfl) ?_
      refine lv_aload_n hx hb dX10_isSubset_5 rfl (lv_at hl 0 rfl) ?_
      refine va_get (D := D) (ci := 9) (v := .ref a_this_of) (C := RX10) (T := TX10) (N := 17) hx hb htc inX10 hown hV.1 hR 0 rfl rfl 6 (by decide) (htc _ w_3_239) (fun _ h9 => h9) rfl dX10_isSubset_6 ?_
      refine lv_iconst (v := 1) hx hb dX10_isSubset_9 (by decide) ?_
      refine va_iald hx hb hV.1 hR 2 0 rfl rfl (show vp_in (1 : Int32) 4 from (by decide : ¬ ((1 : Int32) < 0 ∨ 4 ≤ (1 : Int32).toNatClampNeg))) dX10_isSubset_10 ?_
      refine W.eq (g2 := F0 m 11 ls [.int (c_this_of 1), .int b4_l2]) rfl ?_
      refine lv_icmp_ge (tgt := 55) hx hb dX10_isSubset_11 (by decide) (fun hc1 => ?_) (fun hc1 => ?_)
      · have h := rk_if hc1 h
        refine lv_iconst (v := 1) hx hb dX10_isSubset_55 (by decide) ?_
        exact hret (1 : Int32) _ _ _ _ h rk_nb1 dX10_isSubset_56 hP hD hS
      · have h := rk_nif hc1 h
        refine lv_aload_n hx hb dX10_isSubset_14 rfl (lv_at hl 0 rfl) ?_
        refine va_get (D := D) (ci := 9) (v := .ref a_this_buffer) (C := RX10) (T := TX10) (N := 17) hx hb htc inX10 hown hV.1 hR 0 rfl rfl 7 (by decide) (htc _ w_4_0) (fun _ h9 => h9) rfl dX10_isSubset_15 ?_
        refine lv_iload_n hx hb dX10_isSubset_18 rfl (lv_at hl 2 rfl) ?_
        obtain ⟨hg2, h⟩ := rk_gd h
        refine va_iald hx hb hV.1 hR 1 0 rfl rfl hg2 dX10_isSubset_19 ?_
        refine lv_i2l hx hb dX10_isSubset_20 rfl ?_
        refine lv_iload_n hx hb dX10_isSubset_21 rfl (lv_at hl 1 rfl) ?_
        refine lv_i2l hx hb dX10_isSubset_22 rfl ?_
        refine lv_lconst (v := 1) hx hb dX10_isSubset_23 (by decide) ?_
        refine lv_ladd hx hb dX10_isSubset_24 ?_
        refine lv_aload_n hx hb dX10_isSubset_25 rfl (lv_at hl 0 rfl) ?_
        refine va_get (D := D) (ci := 9) (v := .ref a_this_of) (C := RX10) (T := TX10) (N := 17) hx hb htc inX10 hown hV.1 hR 0 rfl rfl 6 (by decide) (htc _ w_3_239) (fun _ h9 => h9) rfl dX10_isSubset_26 ?_
        refine lv_iconst (v := 0) hx hb dX10_isSubset_29 (by decide) ?_
        refine va_iald hx hb hV.1 hR 2 0 rfl rfl (show vp_in (0 : Int32) 4 from (by decide : ¬ ((0 : Int32) < 0 ∨ 4 ≤ (0 : Int32).toNatClampNeg))) dX10_isSubset_30 ?_
        refine W.eq (g2 := F0 m 31 ls [.int (c_this_of 0), .long (b4_l1.toInt64 + (1 : Int64)), .long (c_this_buffer b4_l2.toNatClampNeg).toInt64]) rfl ?_
        refine lv_i2l hx hb dX10_isSubset_31 rfl ?_
        refine lv_lconst (v := 1) hx hb dX10_isSubset_32 (by decide) ?_
        refine lv_lsub hx hb dX10_isSubset_33 ?_
        obtain ⟨r_34, hc_34, h⟩ := rk_bd h
        refine rk_i (wr := []) (va_runS (As := [.long (c_this_buffer b4_l2.toNatClampNeg).toInt64, .long (b4_l1.toInt64 + (1 : Int64)), .long ((c_this_of 0).toInt64 - (1 : Int64))]) (rest := []) hF (mtX10_within l D cI cJ cO PL _ ((c_this_buffer b4_l2.toNatClampNeg).toInt64) (b4_l1.toInt64 + (1 : Int64)) ((c_this_of 0).toInt64 - (1 : Int64)) r_34 hc_34) (va_cwS 3 htc (rk_gVS w_4_50 w_4_51 w_1_7 w_4_52) rfl rfl rfl (by decide +kernel) ⟨(Nat.le_of_ble_eq_true rfl), (Nat.le_of_ble_eq_true rfl)⟩) (rk_preS hP hD hS hR hn hPL hnl hV [] [] rfl (by decide) rfl (by decide)) rfl rfl hl.1 rfl (lv_room (Nat.le_of_ble_eq_true rfl)) dX10_isSubset_34 ⟨(Nat.le_of_ble_eq_true rfl), (Nat.le_of_ble_eq_true rfl)⟩) hP hD hS hA hR0 hn [] [] rfl rfl (by decide) (by decide) (fun H locs hP hD hS hR => ?_)
        have hP : va_P D vwCl [] H := hP
        have hD : va_D A [] := hD
        refine lv_if_ne (tgt := 42) hx hb dX10_isSubset_37 (by decide) (fun hc3 => ?_) (fun hc3 => ?_)
        · have h := rk_if hc3 h
          refine lv_aload_n hx hb dX10_isSubset_42 rfl (lv_at hl 0 rfl) ?_
          refine va_get (D := D) (ci := 9) (v := .ref a_this_buffer) (C := RX10) (T := TX10) (N := 17) hx hb htc inX10 hown hV.1 hR 0 rfl rfl 7 (by decide) (htc _ w_4_0) (fun _ h9 => h9) rfl dX10_isSubset_43 ?_
          refine lv_iload_n hx hb dX10_isSubset_46 rfl (lv_at hl 2 rfl) ?_
          refine va_iald hx hb hV.1 hR 1 0 rfl rfl hg2 dX10_isSubset_47 ?_
          refine lv_istore_n (lv' := [(1, .int (c_this_buffer b4_l2.toNatClampNeg)), (0, .ref a_this), (2, .int b4_l2)]) hx hb dX10_isSubset_48 rfl hl (by decide) rfl (fun ls hl => ?_)
          refine lv_iinc (v := (b4_l2 + 1)) (lv' := [(2, .int (b4_l2 + 1)), (1, .int (c_this_buffer b4_l2.toNatClampNeg)), (0, .ref a_this)]) hx hb dX10_isSubset_49 hl (k := 2) rfl rfl (by decide) rfl (fun ls hl => ?_)
          refine lv_goto (tgt := 4) hx hb dX10_isSubset_52 (by decide) ?_
          exact ih4 (c_this_buffer b4_l2.toNatClampNeg) (b4_l2 + 1) h _ _ hP hD hS _ (lv_sub hl [2, 1, 0] rfl)
        · have h := rk_nnif hc3 h
          refine lv_iconst (v := 0) hx hb dX10_isSubset_40 (by decide) ?_
          exact hret (0 : Int32) _ _ _ _ h rk_nb0 dX10_isSubset_41 hP hD hS
  exact L4 FU (-1 : Int32) (0 : Int32) h _ _ hP hD hS _ (lv_sub hl [2, 1, 0] rfl)
set_option maxHeartbeats 4000000 in
set_option maxRecDepth 100000 in
theorem mtX10_isPermutation (l : Launch) (D : va_G) (cI cJ cO : ClassId) (PL : va_W) (sz : Nat) (a_this : Nat) (a_this_chosen : Nat) (a_this_factorial : Nat) (a_this_catalan : Nat) (a_this_parted : Nat) (a_this_closed : Nat) (f_this_now : Int32) (a_this_of : Nat) (a_this_buffer : Nat) (a_this_made : Nat) (a_this_stackOne : Nat) (a_this_stackOther : Nat) (a_this_stackLong : Nat) (a_this_left : Nat) (f_this_entryMany : Int32) (a_this_entryFamily : Nat) (a_this_entryOf : Nat) (a_this_entryRank : Nat) (c_this_buffer : Nat → Int32) (c_this_of : Nat → Int32) (r0 : Int32) (h : fX10_isPermutation c_this_buffer c_this_of = some r0) : Met l yX10_isPermutation (rk_w yX10_isPermutation cX10_isPermutation 3 (some .boolean)) rmX10_isPermutation (va_Pc [.ref a_this] (rk_B D (rk_TY cI cJ cO) [] [(a_this, .inr (9, [.ref a_this_chosen, .ref a_this_factorial, .ref a_this_catalan, .ref a_this_parted, .ref a_this_closed, .int f_this_now, .ref a_this_of, .ref a_this_buffer, .ref a_this_made, .ref a_this_stackOne, .ref a_this_stackOther, .ref a_this_stackLong, .ref a_this_left, .int f_this_entryMany, .ref a_this_entryFamily, .ref a_this_entryOf, .ref a_this_entryRank])), (a_this_buffer, .inl (cI, 60, .inl c_this_buffer)), (a_this_of, .inl (cI, 4, .inl c_this_of))] PL sz)) (rk_Qi r0 D [] [] sz) 0 0 (va_A [] sz) := by
  refine rk_metz h (fun x : Int32 => x) (fun x => []) (by decide) (Nat.le_of_ble_eq_true rfl) ?_
  intro p e s m args below meth c A ls Q hret hname hF hP hD hA hV hR0 hn hPL hnl hl h hS
  have hx := hF.1
  have hb := hF.2.1
  have hml := hF.2.2.1
  have hown : s.vm.findClass RX10 = some m.cls := hF.2.2.2.1
  have htc := hF.2.2.2.2
  have hP : va_P D vwCl [] s.heap := hP
  have hD : va_D A [] := hD
  have hR0 : va_P D vwCl [(a_this, .inr (9, [.ref a_this_chosen, .ref a_this_factorial, .ref a_this_catalan, .ref a_this_parted, .ref a_this_closed, .int f_this_now, .ref a_this_of, .ref a_this_buffer, .ref a_this_made, .ref a_this_stackOne, .ref a_this_stackOther, .ref a_this_stackLong, .ref a_this_left, .int f_this_entryMany, .ref a_this_entryFamily, .ref a_this_entryOf, .ref a_this_entryRank])), (a_this_buffer, .inl (cI, 60, .inl c_this_buffer)), (a_this_of, .inl (cI, 4, .inl c_this_of))] s.heap := hR0
  have hR := hR0
  have hl : lv_has ls 3 [(0, .ref a_this)] := hl
  unfold fX10_isPermutation at h
  refine lv_iconst (v := 0) hx hb dX10_isPermutation_0 (by decide) ?_
  refine lv_istore_n (lv' := [(1, .int (0 : Int32)), (0, .ref a_this)]) hx hb dX10_isPermutation_1 rfl hl (by decide) rfl (fun ls hl => ?_)
  refine lv_iconst (v := 0) hx hb dX10_isPermutation_2 (by decide) ?_
  refine lv_istore_n (lv' := [(2, .int (0 : Int32)), (1, .int (0 : Int32)), (0, .ref a_this)]) hx hb dX10_isPermutation_3 rfl hl (by decide) rfl (fun ls hl => ?_)
  have L4 : ∀ (n4 : Nat) (b4_l1 : Int32) (b4_l2 : Int32), rk_it2 (fX10_isPermutation_L4 c_this_buffer c_this_of) n4 b4_l1 b4_l2 = some r0 → ∀ (H : Heap) (locs : List Loc), va_P D vwCl [] H → va_D A [] → va_S A s.heap H locs → ∀ (ls : Array Slot), lv_has ls 3 [(0, .ref a_this), (1, .int b4_l1), (2, .int b4_l2)] → W p l e rmX10_isPermutation s m args below meth c H locs 0 0 Q (F0 m 4 ls []) := by
    intro n4
    induction n4 with
    | zero => intro b4_l1 b4_l2 h; exact rk_no h
    | succ n4 ih4 =>
      intro b4_l1 b4_l2 h H locs hP hD hS ls hl
      have h : fX10_isPermutation_L4 c_this_buffer c_this_of (rk_it2 (fX10_isPermutation_L4 c_this_buffer c_this_of) n4) b4_l1 b4_l2 = some r0 := h
      unfold fX10_isPermutation_L4 at h
      have hR := rk_keep hR0 hn hS
      refine lv_iload_n hx hb dX10_isPermutation_4 rfl (lv_at hl 2 rfl) ?_
      refine lv_aload_n hx hb dX10_isPermutation_5 rfl (lv_at hl 0 rfl) ?_
      refine va_get (D := D) (ci := 9) (v := .ref a_this_of) (C := RX10) (T := TX10) (N := 17) hx hb htc inX10 hown hV.1 hR 0 rfl rfl 6 (by decide) (htc _ w_3_239) (fun _ h9 => h9) rfl dX10_isPermutation_6 ?_
      refine lv_iconst (v := 0) hx hb dX10_isPermutation_9 (by decide) ?_
      refine va_iald hx hb hV.1 hR 2 0 rfl rfl (show vp_in (0 : Int32) 4 from (by decide : ¬ ((0 : Int32) < 0 ∨ 4 ≤ (0 : Int32).toNatClampNeg))) dX10_isPermutation_10 ?_
      refine W.eq (g2 := F0 m 11 ls [.int (c_this_of 0), .int b4_l2]) rfl ?_
      refine lv_icmp_ge (tgt := 70) hx hb dX10_isPermutation_11 (by decide) (fun hc1 => ?_) (fun hc1 => ?_)
      · have h := rk_if hc1 h
        refine lv_iconst (v := 1) hx hb dX10_isPermutation_70 (by decide) ?_
        exact hret (1 : Int32) _ _ _ _ h rk_nb1 dX10_isPermutation_71 hP hD hS
      · have h := rk_nif hc1 h
        refine lv_aload_n hx hb dX10_isPermutation_14 rfl (lv_at hl 0 rfl) ?_
        refine va_get (D := D) (ci := 9) (v := .ref a_this_buffer) (C := RX10) (T := TX10) (N := 17) hx hb htc inX10 hown hV.1 hR 0 rfl rfl 7 (by decide) (htc _ w_4_0) (fun _ h9 => h9) rfl dX10_isPermutation_15 ?_
        refine lv_iload_n hx hb dX10_isPermutation_18 rfl (lv_at hl 2 rfl) ?_
        obtain ⟨hg2, h⟩ := rk_gd h
        refine va_iald hx hb hV.1 hR 1 0 rfl rfl hg2 dX10_isPermutation_19 ?_
        refine lv_i2l hx hb dX10_isPermutation_20 rfl ?_
        refine lv_lconst (v := 0) hx hb dX10_isPermutation_21 (by decide) ?_
        refine lv_aload_n hx hb dX10_isPermutation_22 rfl (lv_at hl 0 rfl) ?_
        refine va_get (D := D) (ci := 9) (v := .ref a_this_of) (C := RX10) (T := TX10) (N := 17) hx hb htc inX10 hown hV.1 hR 0 rfl rfl 6 (by decide) (htc _ w_3_239) (fun _ h9 => h9) rfl dX10_isPermutation_23 ?_
        refine lv_iconst (v := 0) hx hb dX10_isPermutation_26 (by decide) ?_
        refine va_iald hx hb hV.1 hR 2 0 rfl rfl (show vp_in (0 : Int32) 4 from (by decide : ¬ ((0 : Int32) < 0 ∨ 4 ≤ (0 : Int32).toNatClampNeg))) dX10_isPermutation_27 ?_
        refine W.eq (g2 := F0 m 28 ls [.int (c_this_of 0), .long (0 : Int64), .long (c_this_buffer b4_l2.toNatClampNeg).toInt64]) rfl ?_
        refine lv_i2l hx hb dX10_isPermutation_28 rfl ?_
        refine lv_lconst (v := 1) hx hb dX10_isPermutation_29 (by decide) ?_
        refine lv_lsub hx hb dX10_isPermutation_30 ?_
        obtain ⟨r_31, hc_31, h⟩ := rk_bd h
        refine rk_i (wr := []) (va_runS (As := [.long (c_this_buffer b4_l2.toNatClampNeg).toInt64, .long (0 : Int64), .long ((c_this_of 0).toInt64 - (1 : Int64))]) (rest := []) hF (mtX10_within l D cI cJ cO PL _ ((c_this_buffer b4_l2.toNatClampNeg).toInt64) (0 : Int64) ((c_this_of 0).toInt64 - (1 : Int64)) r_31 hc_31) (va_cwS 3 htc (rk_gVS w_4_50 w_4_51 w_1_7 w_4_52) rfl rfl rfl (by decide +kernel) ⟨(Nat.le_of_ble_eq_true rfl), (Nat.le_of_ble_eq_true rfl)⟩) (rk_preS hP hD hS hR hn hPL hnl hV [] [] rfl (by decide) rfl (by decide)) rfl rfl hl.1 rfl (lv_room (Nat.le_of_ble_eq_true rfl)) dX10_isPermutation_31 ⟨(Nat.le_of_ble_eq_true rfl), (Nat.le_of_ble_eq_true rfl)⟩) hP hD hS hA hR0 hn [] [] rfl rfl (by decide) (by decide) (fun H locs hP hD hS hR => ?_)
        have hP : va_P D vwCl [] H := hP
        have hD : va_D A [] := hD
        refine lv_if_eq (tgt := 51) hx hb dX10_isPermutation_34 (by decide) (fun hc3 => ?_) (fun hc3 => ?_)
        · have h := rk_if hc3 h
          refine lv_iconst (v := 0) hx hb dX10_isPermutation_51 (by decide) ?_
          exact hret (0 : Int32) _ _ _ _ h rk_nb0 dX10_isPermutation_52 hP hD hS
        · have h := rk_nif hc3 h
          refine lv_iload_n hx hb dX10_isPermutation_37 rfl (lv_at hl 1 rfl) ?_
          refine lv_aload_n hx hb dX10_isPermutation_38 rfl (lv_at hl 0 rfl) ?_
          refine va_get (D := D) (ci := 9) (v := .ref a_this_buffer) (C := RX10) (T := TX10) (N := 17) hx hb htc inX10 hown hV.1 hR 0 rfl rfl 7 (by decide) (htc _ w_4_0) (fun _ h9 => h9) rfl dX10_isPermutation_39 ?_
          refine lv_iload_n hx hb dX10_isPermutation_42 rfl (lv_at hl 2 rfl) ?_
          refine va_iald hx hb hV.1 hR 1 0 rfl rfl hg2 dX10_isPermutation_43 ?_
          refine lv_ishr hx hb dX10_isPermutation_44 ?_
          refine lv_iconst (v := 1) hx hb dX10_isPermutation_45 (by decide) ?_
          refine lv_iand hx hb dX10_isPermutation_46 ?_
          refine lv_iconst (v := 1) hx hb dX10_isPermutation_47 (by decide) ?_
          refine lv_icmp_ne (tgt := 53) hx hb dX10_isPermutation_48 (by decide) (fun hc4 => ?_) (fun hc4 => ?_)
          · have h := rk_if hc4 h
            refine lv_iload_n hx hb dX10_isPermutation_53 rfl (lv_at hl 1 rfl) ?_
            refine lv_iconst (v := 1) hx hb dX10_isPermutation_54 (by decide) ?_
            refine lv_aload_n hx hb dX10_isPermutation_55 rfl (lv_at hl 0 rfl) ?_
            refine va_get (D := D) (ci := 9) (v := .ref a_this_buffer) (C := RX10) (T := TX10) (N := 17) hx hb htc inX10 hown hV.1 hR 0 rfl rfl 7 (by decide) (htc _ w_4_0) (fun _ h9 => h9) rfl dX10_isPermutation_56 ?_
            refine lv_iload_n hx hb dX10_isPermutation_59 rfl (lv_at hl 2 rfl) ?_
            refine va_iald hx hb hV.1 hR 1 0 rfl rfl hg2 dX10_isPermutation_60 ?_
            refine lv_ishl hx hb dX10_isPermutation_61 ?_
            refine lv_ior hx hb dX10_isPermutation_62 ?_
            refine lv_istore_n (lv' := [(1, .int (b4_l1 ||| ((1 : Int32) <<< ((c_this_buffer b4_l2.toNatClampNeg) &&& 31)))), (0, .ref a_this), (2, .int b4_l2)]) hx hb dX10_isPermutation_63 rfl hl (by decide) rfl (fun ls hl => ?_)
            refine lv_iinc (v := (b4_l2 + 1)) (lv' := [(2, .int (b4_l2 + 1)), (1, .int (b4_l1 ||| ((1 : Int32) <<< ((c_this_buffer b4_l2.toNatClampNeg) &&& 31)))), (0, .ref a_this)]) hx hb dX10_isPermutation_64 hl (k := 2) rfl rfl (by decide) rfl (fun ls hl => ?_)
            refine lv_goto (tgt := 4) hx hb dX10_isPermutation_67 (by decide) ?_
            exact ih4 (b4_l1 ||| ((1 : Int32) <<< ((c_this_buffer b4_l2.toNatClampNeg) &&& 31))) (b4_l2 + 1) h _ _ hP hD hS _ (lv_sub hl [2, 1, 0] rfl)
          · have h := rk_nnif hc4 h
            refine lv_iconst (v := 0) hx hb dX10_isPermutation_51 (by decide) ?_
            exact hret (0 : Int32) _ _ _ _ h rk_nb0 dX10_isPermutation_52 hP hD hS
  exact L4 FU (0 : Int32) (0 : Int32) h _ _ hP hD hS _ (lv_sub hl [2, 1, 0] rfl)
set_option maxHeartbeats 4000000 in
set_option maxRecDepth 100000 in
theorem mtX10_isWord (l : Launch) (D : va_G) (cI cJ cO : ClassId) (PL : va_W) (sz : Nat) (a_this : Nat) (a_this_chosen : Nat) (a_this_factorial : Nat) (a_this_catalan : Nat) (a_this_parted : Nat) (a_this_closed : Nat) (f_this_now : Int32) (a_this_of : Nat) (a_this_buffer : Nat) (a_this_made : Nat) (a_this_stackOne : Nat) (a_this_stackOther : Nat) (a_this_stackLong : Nat) (a_this_left : Nat) (f_this_entryMany : Int32) (a_this_entryFamily : Nat) (a_this_entryOf : Nat) (a_this_entryRank : Nat) (c_this_stackOne : Nat → Int32) (c_this_buffer : Nat → Int32) (c_this_of : Nat → Int32) (r0 : Int32 × (Nat → Int32)) (h : fX10_isWord c_this_stackOne c_this_buffer c_this_of = some r0) : Met l yX10_isWord (rk_w yX10_isWord cX10_isWord 4 (some .boolean)) rmX10_isWord (va_Pc [.ref a_this] (rk_B D (rk_TY cI cJ cO) [(a_this_stackOne, .inl (cI, 64, .inl c_this_stackOne))] [(a_this, .inr (9, [.ref a_this_chosen, .ref a_this_factorial, .ref a_this_catalan, .ref a_this_parted, .ref a_this_closed, .int f_this_now, .ref a_this_of, .ref a_this_buffer, .ref a_this_made, .ref a_this_stackOne, .ref a_this_stackOther, .ref a_this_stackLong, .ref a_this_left, .int f_this_entryMany, .ref a_this_entryFamily, .ref a_this_entryOf, .ref a_this_entryRank])), (a_this_buffer, .inl (cI, 60, .inl c_this_buffer)), (a_this_of, .inl (cI, 4, .inl c_this_of))] PL sz)) (rk_Qi r0.1 D [(a_this_stackOne, .inl (cI, 64, .inl r0.2))] [(a_this_stackOne, .inl (cI, 64, .inl c_this_stackOne))] sz) 0 0 (va_A [(a_this_stackOne, .inl (cI, 64, .inl c_this_stackOne))] sz) := by
  refine rk_metz h (fun x : Int32 × (Nat → Int32) => x.1) (fun x => [(a_this_stackOne, .inl (cI, 64, .inl x.2))]) (by decide) (Nat.le_of_ble_eq_true rfl) ?_
  intro p e s m args below meth c A ls Q hret hname hF hP hD hA hV hR0 hn hPL hnl hl h hS
  have hx := hF.1
  have hb := hF.2.1
  have hml := hF.2.2.1
  have hown : s.vm.findClass RX10 = some m.cls := hF.2.2.2.1
  have htc := hF.2.2.2.2
  have hP : va_P D vwCl [(a_this_stackOne, .inl (cI, 64, .inl c_this_stackOne))] s.heap := hP
  have hD : va_D A [(a_this_stackOne, .inl (cI, 64, .inl c_this_stackOne))] := hD
  have hR0 : va_P D vwCl [(a_this, .inr (9, [.ref a_this_chosen, .ref a_this_factorial, .ref a_this_catalan, .ref a_this_parted, .ref a_this_closed, .int f_this_now, .ref a_this_of, .ref a_this_buffer, .ref a_this_made, .ref a_this_stackOne, .ref a_this_stackOther, .ref a_this_stackLong, .ref a_this_left, .int f_this_entryMany, .ref a_this_entryFamily, .ref a_this_entryOf, .ref a_this_entryRank])), (a_this_buffer, .inl (cI, 60, .inl c_this_buffer)), (a_this_of, .inl (cI, 4, .inl c_this_of))] s.heap := hR0
  have hR := hR0
  have hl : lv_has ls 4 [(0, .ref a_this)] := hl
  unfold fX10_isWord at h
  refine lv_iconst (v := 0) hx hb dX10_isWord_0 (by decide) ?_
  refine lv_istore_n (lv' := [(1, .int (0 : Int32)), (0, .ref a_this)]) hx hb dX10_isWord_1 rfl hl (by decide) rfl (fun ls hl => ?_)
  refine lv_iconst (v := 0) hx hb dX10_isWord_2 (by decide) ?_
  refine lv_istore_n (lv' := [(2, .int (0 : Int32)), (1, .int (0 : Int32)), (0, .ref a_this)]) hx hb dX10_isWord_3 rfl hl (by decide) rfl (fun ls hl => ?_)
  have L4 : ∀ (n4 : Nat) (b4_l1 : Int32) (b4_l2 : Int32) (b4_c_this_stackOne : Nat → Int32), rk_it3 (fX10_isWord_L4 c_this_buffer c_this_of) n4 b4_l1 b4_l2 b4_c_this_stackOne = some r0 → ∀ (H : Heap) (locs : List Loc), va_P D vwCl [(a_this_stackOne, .inl (cI, 64, .inl b4_c_this_stackOne))] H → va_D A [(a_this_stackOne, .inl (cI, 64, .inl b4_c_this_stackOne))] → va_S A s.heap H locs → ∀ (ls : Array Slot), lv_has ls 4 [(0, .ref a_this), (1, .int b4_l1), (2, .int b4_l2)] → W p l e rmX10_isWord s m args below meth c H locs 0 0 Q (F0 m 4 ls []) := by
    intro n4
    induction n4 with
    | zero => intro b4_l1 b4_l2 b4_c_this_stackOne h; exact rk_no h
    | succ n4 ih4 =>
      intro b4_l1 b4_l2 b4_c_this_stackOne h H locs hP hD hS ls hl
      have h : fX10_isWord_L4 c_this_buffer c_this_of (rk_it3 (fX10_isWord_L4 c_this_buffer c_this_of) n4) b4_l1 b4_l2 b4_c_this_stackOne = some r0 := h
      unfold fX10_isWord_L4 at h
      have hR := rk_keep hR0 hn hS
      refine lv_iload_n hx hb dX10_isWord_4 rfl (lv_at hl 2 rfl) ?_
      refine lv_iconst (v := 2) hx hb dX10_isWord_5 (by decide) ?_
      refine lv_aload_n hx hb dX10_isWord_6 rfl (lv_at hl 0 rfl) ?_
      refine va_get (D := D) (ci := 9) (v := .ref a_this_of) (C := RX10) (T := TX10) (N := 17) hx hb htc inX10 hown hV.1 hR 0 rfl rfl 6 (by decide) (htc _ w_3_239) (fun _ h9 => h9) rfl dX10_isWord_7 ?_
      refine lv_iconst (v := 0) hx hb dX10_isWord_10 (by decide) ?_
      refine va_iald hx hb hV.1 hR 2 0 rfl rfl (show vp_in (0 : Int32) 4 from (by decide : ¬ ((0 : Int32) < 0 ∨ 4 ≤ (0 : Int32).toNatClampNeg))) dX10_isWord_11 ?_
      refine W.eq (g2 := F0 m 12 ls [.int (c_this_of 0), .int (2 : Int32), .int b4_l2]) rfl ?_
      refine lv_imul hx hb dX10_isWord_12 ?_
      refine lv_icmp_ge (tgt := 95) hx hb dX10_isWord_13 (by decide) (fun hc1 => ?_) (fun hc1 => ?_)
      · have h := rk_if hc1 h
        refine lv_iload_n hx hb dX10_isWord_95 rfl (lv_at hl 1 rfl) ?_
        refine lv_if_ne (tgt := 103) hx hb dX10_isWord_96 (by decide) (fun hc2 => ?_) (fun hc2 => ?_)
        · have h := rk_if hc2 h
          refine lv_iconst (v := 0) hx hb dX10_isWord_103 (by decide) ?_
          exact hret ((0 : Int32), b4_c_this_stackOne) _ _ _ _ h rk_nb0 dX10_isWord_104 hP hD hS
        · have h := rk_nnif hc2 h
          refine lv_iconst (v := 1) hx hb dX10_isWord_99 (by decide) ?_
          refine lv_goto (tgt := 104) hx hb dX10_isWord_100 (by decide) ?_
          exact hret ((1 : Int32), b4_c_this_stackOne) _ _ _ _ h rk_nb1 dX10_isWord_104 hP hD hS
      · have h := rk_nif hc1 h
        refine lv_aload_n hx hb dX10_isWord_16 rfl (lv_at hl 0 rfl) ?_
        refine va_get (D := D) (ci := 9) (v := .ref a_this_buffer) (C := RX10) (T := TX10) (N := 17) hx hb htc inX10 hown hV.1 hR 0 rfl rfl 7 (by decide) (htc _ w_4_0) (fun _ h9 => h9) rfl dX10_isWord_17 ?_
        refine lv_iload_n hx hb dX10_isWord_20 rfl (lv_at hl 2 rfl) ?_
        obtain ⟨hg3, h⟩ := rk_gd h
        refine va_iald hx hb hV.1 hR 1 0 rfl rfl hg3 dX10_isWord_21 ?_
        refine lv_istore_n (lv' := [(3, .int (c_this_buffer b4_l2.toNatClampNeg)), (0, .ref a_this), (1, .int b4_l1), (2, .int b4_l2)]) hx hb dX10_isWord_22 rfl hl (by decide) rfl (fun ls hl => ?_)
        refine lv_iload_n hx hb dX10_isWord_23 rfl (lv_at hl 0 rfl) ?_
        refine lv_i2l hx hb dX10_isWord_24 rfl ?_
        refine lv_lconst (v := 0) hx hb dX10_isWord_25 (by decide) ?_
        refine lv_ldc2 (v := (2 : Int64)) hx hb hown (htc _ w_4_53) dX10_isWord_26 ?_
        refine lv_aload_n hx hb dX10_isWord_29 rfl (lv_at hl 1 rfl) ?_
        refine va_get (D := D) (ci := 9) (v := .ref a_this_of) (C := RX10) (T := TX10) (N := 17) hx hb htc inX10 hown hV.1 hR 0 rfl rfl 6 (by decide) (htc _ w_3_239) (fun _ h9 => h9) rfl dX10_isWord_30 ?_
        refine lv_iconst (v := 1) hx hb dX10_isWord_33 (by decide) ?_
        refine va_iald hx hb hV.1 hR 2 0 rfl rfl (show vp_in (1 : Int32) 4 from (by decide : ¬ ((1 : Int32) < 0 ∨ 4 ≤ (1 : Int32).toNatClampNeg))) dX10_isWord_34 ?_
        refine W.eq (g2 := F0 m 35 ls [.int (c_this_of 1), .long (2 : Int64), .long (0 : Int64), .long (c_this_buffer b4_l2.toNatClampNeg).toInt64]) rfl ?_
        refine lv_i2l hx hb dX10_isWord_35 rfl ?_
        refine lv_lmul hx hb dX10_isWord_36 ?_
        refine lv_lconst (v := 1) hx hb dX10_isWord_37 (by decide) ?_
        refine lv_lsub hx hb dX10_isWord_38 ?_
        obtain ⟨r_39, hc_39, h⟩ := rk_bd h
        refine rk_i (wr := [(a_this_stackOne, .inl (cI, 64, .inl b4_c_this_stackOne))]) (va_runS (As := [.long (c_this_buffer b4_l2.toNatClampNeg).toInt64, .long (0 : Int64), .long (((2 : Int64) * (c_this_of 1).toInt64) - (1 : Int64))]) (rest := []) hF (mtX10_within l D cI cJ cO PL _ ((c_this_buffer b4_l2.toNatClampNeg).toInt64) (0 : Int64) (((2 : Int64) * (c_this_of 1).toInt64) - (1 : Int64)) r_39 hc_39) (va_cwS 3 htc (rk_gVS w_4_50 w_4_51 w_1_7 w_4_52) rfl rfl rfl (by decide +kernel) ⟨(Nat.le_of_ble_eq_true rfl), (Nat.le_of_ble_eq_true rfl)⟩) (rk_preS hP hD hS hR hn hPL hnl hV [] [] rfl (by decide) rfl (by decide)) rfl rfl hl.1 rfl (lv_room (Nat.le_of_ble_eq_true rfl)) dX10_isWord_39 ⟨(Nat.le_of_ble_eq_true rfl), (Nat.le_of_ble_eq_true rfl)⟩) hP hD hS hA hR0 hn [] [0] rfl rfl (by decide) (by decide) (fun H locs hP hD hS hR => ?_)
        have hP : va_P D vwCl [(a_this_stackOne, .inl (cI, 64, .inl b4_c_this_stackOne))] H := hP
        have hD : va_D A [(a_this_stackOne, .inl (cI, 64, .inl b4_c_this_stackOne))] := hD
        refine lv_if_ne (tgt := 47) hx hb dX10_isWord_42 (by decide) (fun hc4 => ?_) (fun hc4 => ?_)
        · have h := rk_if hc4 h
          refine lv_iload_n hx hb dX10_isWord_47 rfl (lv_at hl 0 rfl) ?_
          refine lv_iconst (v := 2) hx hb dX10_isWord_48 (by decide) ?_
          refine lv_irem hx hb dX10_isWord_49 (by decide) ?_
          have B89 : ∀ (b89_l1 : Int32) (b89_c_this_stackOne : Nat → Int32), fX10_isWord_B89 b4_l2 (rk_it3 (fX10_isWord_L4 c_this_buffer c_this_of) n4) b89_l1 b89_c_this_stackOne = some r0 → ∀ (H : Heap) (locs : List Loc), va_P D vwCl [(a_this_stackOne, .inl (cI, 64, .inl b89_c_this_stackOne))] H → va_D A [(a_this_stackOne, .inl (cI, 64, .inl b89_c_this_stackOne))] → va_S A s.heap H locs → ∀ (ls : Array Slot), lv_has ls 4 [(0, .ref a_this), (1, .int b89_l1), (2, .int b4_l2)] → W p l e rmX10_isWord s m args below meth c H locs 0 0 Q (F0 m 89 ls []) := by
            intro b89_l1 b89_c_this_stackOne h H locs hP hD hS ls hl
            unfold fX10_isWord_B89 at h
            have hR := rk_keep hR0 hn hS
            refine lv_iinc (v := (b4_l2 + 1)) (lv' := [(2, .int (b4_l2 + 1)), (0, .ref a_this), (1, .int b89_l1)]) hx hb dX10_isWord_89 hl (k := 2) rfl rfl (by decide) rfl (fun ls hl => ?_)
            refine lv_goto (tgt := 4) hx hb dX10_isWord_92 (by decide) ?_
            exact ih4 b89_l1 (b4_l2 + 1) b89_c_this_stackOne h _ _ hP hD hS _ (lv_sub hl [1, 2, 0] rfl)
          refine lv_if_ne (tgt := 66) hx hb dX10_isWord_50 (by decide) (fun hc5 => ?_) (fun hc5 => ?_)
          · have h := rk_if hc5 h
            refine lv_iload_n hx hb dX10_isWord_66 rfl (lv_at hl 2 rfl) ?_
            refine lv_if_eq (tgt := 84) hx hb dX10_isWord_67 (by decide) (fun hc6 => ?_) (fun hc6 => ?_)
            · have h := rk_if hc6 h
              refine lv_iconst (v := 0) hx hb dX10_isWord_84 (by decide) ?_
              exact hret ((0 : Int32), b4_c_this_stackOne) _ _ _ _ h rk_nb0 dX10_isWord_85 hP hD hS
            · have h := rk_nif hc6 h
              refine lv_aload_n hx hb dX10_isWord_70 rfl (lv_at hl 1 rfl) ?_
              refine va_get (D := D) (ci := 9) (v := .ref a_this_stackOne) (C := RX10) (T := TX10) (N := 17) hx hb htc inX10 hown hV.1 hR 0 rfl rfl 9 (by decide) (htc _ w_4_2) (fun _ h9 => h9) rfl dX10_isWord_71 ?_
              refine lv_iload_n hx hb dX10_isWord_74 rfl (lv_at hl 2 rfl) ?_
              refine lv_iconst (v := 1) hx hb dX10_isWord_75 (by decide) ?_
              refine lv_isub hx hb dX10_isWord_76 ?_
              obtain ⟨hg7, h⟩ := rk_gd h
              refine va_iald hx hb hV.1 hP 0 0 rfl rfl hg7 dX10_isWord_77 ?_
              refine lv_iload_n hx hb dX10_isWord_78 rfl (lv_at hl 0 rfl) ?_
              refine lv_iconst (v := 1) hx hb dX10_isWord_79 (by decide) ?_
              refine lv_isub hx hb dX10_isWord_80 ?_
              refine lv_icmp_eq (tgt := 86) hx hb dX10_isWord_81 (by decide) (fun hc8 => ?_) (fun hc8 => ?_)
              · have h := rk_if hc8 h
                refine lv_iinc (v := (b4_l1 + (-1))) (lv' := [(1, .int (b4_l1 + (-1))), (3, .int (c_this_buffer b4_l2.toNatClampNeg)), (0, .ref a_this), (2, .int b4_l2)]) hx hb dX10_isWord_86 hl (k := 2) rfl rfl (by decide) rfl (fun ls hl => ?_)
                exact B89 (b4_l1 + (-1)) b4_c_this_stackOne h _ _ hP hD hS _ (lv_sub hl [2, 0, 3] rfl)
              · have h := rk_nif hc8 h
                refine lv_iconst (v := 0) hx hb dX10_isWord_84 (by decide) ?_
                exact hret ((0 : Int32), b4_c_this_stackOne) _ _ _ _ h rk_nb0 dX10_isWord_85 hP hD hS
          · have h := rk_nnif hc5 h
            refine lv_aload_n hx hb dX10_isWord_53 rfl (lv_at hl 1 rfl) ?_
            refine va_get (D := D) (ci := 9) (v := .ref a_this_stackOne) (C := RX10) (T := TX10) (N := 17) hx hb htc inX10 hown hV.1 hR 0 rfl rfl 9 (by decide) (htc _ w_4_2) (fun _ h9 => h9) rfl dX10_isWord_54 ?_
            refine lv_iload_n hx hb dX10_isWord_57 rfl (lv_at hl 2 rfl) ?_
            refine lv_iload_n hx hb dX10_isWord_58 rfl (lv_at hl 0 rfl) ?_
            obtain ⟨hg9, h⟩ := rk_gd h
            refine va_iast hx hb hV.1 hP hD hS 0 0 rfl rfl hg9 dX10_isWord_59 (fun H locs hP hD hS => ?_)
            have hP : va_P D vwCl [(a_this_stackOne, .inl (cI, 64, .inl (upd b4_c_this_stackOne b4_l1.toNatClampNeg (c_this_buffer b4_l2.toNatClampNeg))))] H := hP
            have hD : va_D A [(a_this_stackOne, .inl (cI, 64, .inl (upd b4_c_this_stackOne b4_l1.toNatClampNeg (c_this_buffer b4_l2.toNatClampNeg))))] := hD
            have hR := rk_keep hR0 hn hS
            refine lv_iinc (v := (b4_l1 + 1)) (lv' := [(1, .int (b4_l1 + 1)), (3, .int (c_this_buffer b4_l2.toNatClampNeg)), (0, .ref a_this), (2, .int b4_l2)]) hx hb dX10_isWord_60 hl (k := 2) rfl rfl (by decide) rfl (fun ls hl => ?_)
            refine lv_goto (tgt := 89) hx hb dX10_isWord_63 (by decide) ?_
            exact B89 (b4_l1 + 1) (upd b4_c_this_stackOne b4_l1.toNatClampNeg (c_this_buffer b4_l2.toNatClampNeg)) h _ _ hP hD hS _ (lv_sub hl [2, 0, 3] rfl)
        · have h := rk_nnif hc4 h
          refine lv_iconst (v := 0) hx hb dX10_isWord_45 (by decide) ?_
          exact hret ((0 : Int32), b4_c_this_stackOne) _ _ _ _ h rk_nb0 dX10_isWord_46 hP hD hS
  exact L4 FU (0 : Int32) (0 : Int32) c_this_stackOne h _ _ hP hD hS _ (lv_sub hl [2, 1, 0] rfl)
set_option maxHeartbeats 4000000 in
set_option maxRecDepth 100000 in
theorem mtX10_isTree (l : Launch) (D : va_G) (cI cJ cO : ClassId) (PL : va_W) (sz : Nat) (a_this : Nat) (a_this_chosen : Nat) (a_this_factorial : Nat) (a_this_catalan : Nat) (a_this_parted : Nat) (a_this_closed : Nat) (f_this_now : Int32) (a_this_of : Nat) (a_this_buffer : Nat) (a_this_made : Nat) (a_this_stackOne : Nat) (a_this_stackOther : Nat) (a_this_stackLong : Nat) (a_this_left : Nat) (f_this_entryMany : Int32) (a_this_entryFamily : Nat) (a_this_entryOf : Nat) (a_this_entryRank : Nat) (c_this_stackOne : Nat → Int32) (c_this_buffer : Nat → Int32) (c_this_of : Nat → Int32) (r0 : Int32 × (Nat → Int32)) (h : fX10_isTree c_this_stackOne c_this_buffer c_this_of = some r0) : Met l yX10_isTree (rk_w yX10_isTree cX10_isTree 5 (some .boolean)) rmX10_isTree (va_Pc [.ref a_this] (rk_B D (rk_TY cI cJ cO) [(a_this_stackOne, .inl (cI, 64, .inl c_this_stackOne))] [(a_this, .inr (9, [.ref a_this_chosen, .ref a_this_factorial, .ref a_this_catalan, .ref a_this_parted, .ref a_this_closed, .int f_this_now, .ref a_this_of, .ref a_this_buffer, .ref a_this_made, .ref a_this_stackOne, .ref a_this_stackOther, .ref a_this_stackLong, .ref a_this_left, .int f_this_entryMany, .ref a_this_entryFamily, .ref a_this_entryOf, .ref a_this_entryRank])), (a_this_buffer, .inl (cI, 60, .inl c_this_buffer)), (a_this_of, .inl (cI, 4, .inl c_this_of))] PL sz)) (rk_Qi r0.1 D [(a_this_stackOne, .inl (cI, 64, .inl r0.2))] [(a_this_stackOne, .inl (cI, 64, .inl c_this_stackOne))] sz) 0 0 (va_A [(a_this_stackOne, .inl (cI, 64, .inl c_this_stackOne))] sz) := by
  refine rk_metz h (fun x : Int32 × (Nat → Int32) => x.1) (fun x => [(a_this_stackOne, .inl (cI, 64, .inl x.2))]) (by decide) (Nat.le_of_ble_eq_true rfl) ?_
  intro p e s m args below meth c A ls Q hret hname hF hP hD hA hV hR0 hn hPL hnl hl h hS
  have hx := hF.1
  have hb := hF.2.1
  have hml := hF.2.2.1
  have hown : s.vm.findClass RX10 = some m.cls := hF.2.2.2.1
  have htc := hF.2.2.2.2
  have hP : va_P D vwCl [(a_this_stackOne, .inl (cI, 64, .inl c_this_stackOne))] s.heap := hP
  have hD : va_D A [(a_this_stackOne, .inl (cI, 64, .inl c_this_stackOne))] := hD
  have hR0 : va_P D vwCl [(a_this, .inr (9, [.ref a_this_chosen, .ref a_this_factorial, .ref a_this_catalan, .ref a_this_parted, .ref a_this_closed, .int f_this_now, .ref a_this_of, .ref a_this_buffer, .ref a_this_made, .ref a_this_stackOne, .ref a_this_stackOther, .ref a_this_stackLong, .ref a_this_left, .int f_this_entryMany, .ref a_this_entryFamily, .ref a_this_entryOf, .ref a_this_entryRank])), (a_this_buffer, .inl (cI, 60, .inl c_this_buffer)), (a_this_of, .inl (cI, 4, .inl c_this_of))] s.heap := hR0
  have hR := hR0
  have hl : lv_has ls 5 [(0, .ref a_this)] := hl
  unfold fX10_isTree at h
  refine lv_iconst (v := 1) hx hb dX10_isTree_0 (by decide) ?_
  refine lv_istore_n (lv' := [(1, .int (1 : Int32)), (0, .ref a_this)]) hx hb dX10_isTree_1 rfl hl (by decide) rfl (fun ls hl => ?_)
  refine lv_aload_n hx hb dX10_isTree_2 rfl (lv_at hl 1 rfl) ?_
  refine va_get (D := D) (ci := 9) (v := .ref a_this_stackOne) (C := RX10) (T := TX10) (N := 17) hx hb htc inX10 hown hV.1 hR 0 rfl rfl 9 (by decide) (htc _ w_4_2) (fun _ h9 => h9) rfl dX10_isTree_3 ?_
  refine lv_iconst (v := 0) hx hb dX10_isTree_6 (by decide) ?_
  refine lv_aload_n hx hb dX10_isTree_7 rfl (lv_at hl 1 rfl) ?_
  refine va_get (D := D) (ci := 9) (v := .ref a_this_of) (C := RX10) (T := TX10) (N := 17) hx hb htc inX10 hown hV.1 hR 0 rfl rfl 6 (by decide) (htc _ w_3_239) (fun _ h9 => h9) rfl dX10_isTree_8 ?_
  refine lv_iconst (v := 0) hx hb dX10_isTree_11 (by decide) ?_
  refine va_iald hx hb hV.1 hR 2 0 rfl rfl (show vp_in (0 : Int32) 4 from (by decide : ¬ ((0 : Int32) < 0 ∨ 4 ≤ (0 : Int32).toNatClampNeg))) dX10_isTree_12 ?_
  refine W.eq (g2 := F0 m 13 ls [.int (c_this_of 0), .int (0 : Int32), .ref a_this_stackOne]) rfl ?_
  refine va_iast hx hb hV.1 hP hD hS 0 0 rfl rfl (show vp_in (0 : Int32) 64 from (by decide : ¬ ((0 : Int32) < 0 ∨ 64 ≤ (0 : Int32).toNatClampNeg))) dX10_isTree_13 (fun H locs hP hD hS => ?_)
  have hP : va_P D vwCl [(a_this_stackOne, .inl (cI, 64, .inl (upd c_this_stackOne 0 (c_this_of 0))))] H := hP
  have hD : va_D A [(a_this_stackOne, .inl (cI, 64, .inl (upd c_this_stackOne 0 (c_this_of 0))))] := hD
  have hR := rk_keep hR0 hn hS
  refine lv_iconst (v := 0) hx hb dX10_isTree_14 (by decide) ?_
  refine lv_istore_n (lv' := [(2, .int (0 : Int32)), (1, .int (1 : Int32)), (0, .ref a_this)]) hx hb dX10_isTree_15 rfl hl (by decide) rfl (fun ls hl => ?_)
  have L16 : ∀ (n16 : Nat) (b16_l1 : Int32) (b16_l2 : Int32) (b16_c_this_stackOne : Nat → Int32), rk_it3 (fX10_isTree_L16 c_this_buffer c_this_of) n16 b16_l1 b16_l2 b16_c_this_stackOne = some r0 → ∀ (H : Heap) (locs : List Loc), va_P D vwCl [(a_this_stackOne, .inl (cI, 64, .inl b16_c_this_stackOne))] H → va_D A [(a_this_stackOne, .inl (cI, 64, .inl b16_c_this_stackOne))] → va_S A s.heap H locs → ∀ (ls : Array Slot), lv_has ls 5 [(0, .ref a_this), (1, .int b16_l1), (2, .int b16_l2)] → W p l e rmX10_isTree s m args below meth c H locs 0 0 Q (F0 m 16 ls []) := by
    intro n16
    induction n16 with
    | zero => intro b16_l1 b16_l2 b16_c_this_stackOne h; exact rk_no h
    | succ n16 ih16 =>
      intro b16_l1 b16_l2 b16_c_this_stackOne h H locs hP hD hS ls hl
      have h : fX10_isTree_L16 c_this_buffer c_this_of (rk_it3 (fX10_isTree_L16 c_this_buffer c_this_of) n16) b16_l1 b16_l2 b16_c_this_stackOne = some r0 := h
      unfold fX10_isTree_L16 at h
      have hR := rk_keep hR0 hn hS
      refine lv_iload_n hx hb dX10_isTree_16 rfl (lv_at hl 2 rfl) ?_
      refine lv_aload_n hx hb dX10_isTree_17 rfl (lv_at hl 0 rfl) ?_
      refine va_get (D := D) (ci := 9) (v := .ref a_this_of) (C := RX10) (T := TX10) (N := 17) hx hb htc inX10 hown hV.1 hR 0 rfl rfl 6 (by decide) (htc _ w_3_239) (fun _ h9 => h9) rfl dX10_isTree_18 ?_
      refine lv_iconst (v := 0) hx hb dX10_isTree_21 (by decide) ?_
      refine va_iald hx hb hV.1 hR 2 0 rfl rfl (show vp_in (0 : Int32) 4 from (by decide : ¬ ((0 : Int32) < 0 ∨ 4 ≤ (0 : Int32).toNatClampNeg))) dX10_isTree_22 ?_
      refine W.eq (g2 := F0 m 23 ls [.int (c_this_of 0), .int b16_l2]) rfl ?_
      refine lv_icmp_ge (tgt := 106) hx hb dX10_isTree_23 (by decide) (fun hc1 => ?_) (fun hc1 => ?_)
      · have h := rk_if hc1 h
        refine lv_iconst (v := 1) hx hb dX10_isTree_106 (by decide) ?_
        exact hret ((1 : Int32), b16_c_this_stackOne) _ _ _ _ h rk_nb1 dX10_isTree_107 hP hD hS
      · have h := rk_nif hc1 h
        refine lv_iinc (v := (b16_l1 + (-1))) (lv' := [(1, .int (b16_l1 + (-1))), (0, .ref a_this), (2, .int b16_l2)]) hx hb dX10_isTree_26 hl (k := 1) rfl rfl (by decide) rfl (fun ls hl => ?_)
        refine lv_aload_n hx hb dX10_isTree_29 rfl (lv_at hl 1 rfl) ?_
        refine va_get (D := D) (ci := 9) (v := .ref a_this_stackOne) (C := RX10) (T := TX10) (N := 17) hx hb htc inX10 hown hV.1 hR 0 rfl rfl 9 (by decide) (htc _ w_4_2) (fun _ h9 => h9) rfl dX10_isTree_30 ?_
        refine lv_iload_n hx hb dX10_isTree_33 rfl (lv_at hl 0 rfl) ?_
        obtain ⟨hg2, h⟩ := rk_gd h
        refine va_iald hx hb hV.1 hP 0 0 rfl rfl hg2 dX10_isTree_34 ?_
        refine lv_istore_n (lv' := [(3, .int (b16_c_this_stackOne (b16_l1 + (-1)).toNatClampNeg)), (1, .int (b16_l1 + (-1))), (0, .ref a_this), (2, .int b16_l2)]) hx hb dX10_isTree_35 rfl hl (by decide) rfl (fun ls hl => ?_)
        refine lv_aload_n hx hb dX10_isTree_36 rfl (lv_at hl 2 rfl) ?_
        refine va_get (D := D) (ci := 9) (v := .ref a_this_buffer) (C := RX10) (T := TX10) (N := 17) hx hb htc inX10 hown hV.1 hR 0 rfl rfl 7 (by decide) (htc _ w_4_0) (fun _ h9 => h9) rfl dX10_isTree_37 ?_
        refine lv_iload_n hx hb dX10_isTree_40 rfl (lv_at hl 3 rfl) ?_
        obtain ⟨hg3, h⟩ := rk_gd h
        refine va_iald hx hb hV.1 hR 1 0 rfl rfl hg3 dX10_isTree_41 ?_
        refine lv_istore (lv' := [(4, .int (c_this_buffer b16_l2.toNatClampNeg)), (3, .int (b16_c_this_stackOne (b16_l1 + (-1)).toNatClampNeg)), (1, .int (b16_l1 + (-1))), (0, .ref a_this), (2, .int b16_l2)]) hx hb dX10_isTree_42 hl (by decide) rfl (fun ls hl => ?_)
        refine lv_iload hx hb dX10_isTree_44 (lv_at hl 0 rfl) ?_
        refine lv_i2l hx hb dX10_isTree_46 rfl ?_
        refine lv_lconst (v := 0) hx hb dX10_isTree_47 (by decide) ?_
        refine lv_iload_n hx hb dX10_isTree_48 rfl (lv_at hl 1 rfl) ?_
        refine lv_i2l hx hb dX10_isTree_49 rfl ?_
        refine lv_lconst (v := 1) hx hb dX10_isTree_50 (by decide) ?_
        refine lv_lsub hx hb dX10_isTree_51 ?_
        obtain ⟨r_52, hc_52, h⟩ := rk_bd h
        refine rk_i (wr := [(a_this_stackOne, .inl (cI, 64, .inl b16_c_this_stackOne))]) (va_runS (As := [.long (c_this_buffer b16_l2.toNatClampNeg).toInt64, .long (0 : Int64), .long ((b16_c_this_stackOne (b16_l1 + (-1)).toNatClampNeg).toInt64 - (1 : Int64))]) (rest := []) hF (mtX10_within l D cI cJ cO PL _ ((c_this_buffer b16_l2.toNatClampNeg).toInt64) (0 : Int64) ((b16_c_this_stackOne (b16_l1 + (-1)).toNatClampNeg).toInt64 - (1 : Int64)) r_52 hc_52) (va_cwS 3 htc (rk_gVS w_4_50 w_4_51 w_1_7 w_4_52) rfl rfl rfl (by decide +kernel) ⟨(Nat.le_of_ble_eq_true rfl), (Nat.le_of_ble_eq_true rfl)⟩) (rk_preS hP hD hS hR hn hPL hnl hV [] [] rfl (by decide) rfl (by decide)) rfl rfl hl.1 rfl (lv_room (Nat.le_of_ble_eq_true rfl)) dX10_isTree_52 ⟨(Nat.le_of_ble_eq_true rfl), (Nat.le_of_ble_eq_true rfl)⟩) hP hD hS hA hR0 hn [] [0] rfl rfl (by decide) (by decide) (fun H locs hP hD hS hR => ?_)
        have hP : va_P D vwCl [(a_this_stackOne, .inl (cI, 64, .inl b16_c_this_stackOne))] H := hP
        have hD : va_D A [(a_this_stackOne, .inl (cI, 64, .inl b16_c_this_stackOne))] := hD
        refine lv_if_ne (tgt := 60) hx hb dX10_isTree_55 (by decide) (fun hc4 => ?_) (fun hc4 => ?_)
        · have h := rk_if hc4 h
          refine lv_iload_n hx hb dX10_isTree_60 rfl (lv_at hl 1 rfl) ?_
          refine lv_iconst (v := 1) hx hb dX10_isTree_61 (by decide) ?_
          refine lv_isub hx hb dX10_isTree_62 ?_
          refine lv_iload hx hb dX10_isTree_63 (lv_at hl 0 rfl) ?_
          refine lv_isub hx hb dX10_isTree_65 ?_
          have B84 : ∀ (b84_l1 : Int32) (b84_c_this_stackOne : Nat → Int32), fX10_isTree_B84 c_this_buffer b16_l2 (rk_it3 (fX10_isTree_L16 c_this_buffer c_this_of) n16) b84_l1 b84_c_this_stackOne = some r0 → ∀ (H : Heap) (locs : List Loc), va_P D vwCl [(a_this_stackOne, .inl (cI, 64, .inl b84_c_this_stackOne))] H → va_D A [(a_this_stackOne, .inl (cI, 64, .inl b84_c_this_stackOne))] → va_S A s.heap H locs → ∀ (ls : Array Slot), lv_has ls 5 [(0, .ref a_this), (1, .int b84_l1), (2, .int b16_l2), (4, .int (c_this_buffer b16_l2.toNatClampNeg))] → W p l e rmX10_isTree s m args below meth c H locs 0 0 Q (F0 m 84 ls []) := by
            intro b84_l1 b84_c_this_stackOne h H locs hP hD hS ls hl
            unfold fX10_isTree_B84 at h
            have hR := rk_keep hR0 hn hS
            refine lv_iload hx hb dX10_isTree_84 (lv_at hl 3 rfl) ?_
            have B100 : ∀ (b100_l1 : Int32) (b100_c_this_stackOne : Nat → Int32), fX10_isTree_B100 b16_l2 (rk_it3 (fX10_isTree_L16 c_this_buffer c_this_of) n16) b100_l1 b100_c_this_stackOne = some r0 → ∀ (H : Heap) (locs : List Loc), va_P D vwCl [(a_this_stackOne, .inl (cI, 64, .inl b100_c_this_stackOne))] H → va_D A [(a_this_stackOne, .inl (cI, 64, .inl b100_c_this_stackOne))] → va_S A s.heap H locs → ∀ (ls : Array Slot), lv_has ls 5 [(0, .ref a_this), (1, .int b100_l1), (2, .int b16_l2)] → W p l e rmX10_isTree s m args below meth c H locs 0 0 Q (F0 m 100 ls []) := by
              intro b100_l1 b100_c_this_stackOne h H locs hP hD hS ls hl
              unfold fX10_isTree_B100 at h
              have hR := rk_keep hR0 hn hS
              refine lv_iinc (v := (b16_l2 + 1)) (lv' := [(2, .int (b16_l2 + 1)), (0, .ref a_this), (1, .int b100_l1)]) hx hb dX10_isTree_100 hl (k := 2) rfl rfl (by decide) rfl (fun ls hl => ?_)
              refine lv_goto (tgt := 16) hx hb dX10_isTree_103 (by decide) ?_
              exact ih16 b100_l1 (b16_l2 + 1) b100_c_this_stackOne h _ _ hP hD hS _ (lv_sub hl [1, 2, 0] rfl)
            refine lv_if_le (tgt := 100) hx hb dX10_isTree_86 (by decide) (fun hc5 => ?_) (fun hc5 => ?_)
            · have h := rk_if hc5 h
              exact B100 b84_l1 b84_c_this_stackOne h _ _ hP hD hS _ (lv_sub hl [0, 1, 2] rfl)
            · have h := rk_nif hc5 h
              refine lv_aload_n hx hb dX10_isTree_89 rfl (lv_at hl 0 rfl) ?_
              refine va_get (D := D) (ci := 9) (v := .ref a_this_stackOne) (C := RX10) (T := TX10) (N := 17) hx hb htc inX10 hown hV.1 hR 0 rfl rfl 9 (by decide) (htc _ w_4_2) (fun _ h9 => h9) rfl dX10_isTree_90 ?_
              refine lv_iload_n hx hb dX10_isTree_93 rfl (lv_at hl 1 rfl) ?_
              refine lv_iload hx hb dX10_isTree_94 (lv_at hl 3 rfl) ?_
              obtain ⟨hg6, h⟩ := rk_gd h
              refine va_iast hx hb hV.1 hP hD hS 0 0 rfl rfl hg6 dX10_isTree_96 (fun H locs hP hD hS => ?_)
              have hP : va_P D vwCl [(a_this_stackOne, .inl (cI, 64, .inl (upd b84_c_this_stackOne b84_l1.toNatClampNeg (c_this_buffer b16_l2.toNatClampNeg))))] H := hP
              have hD : va_D A [(a_this_stackOne, .inl (cI, 64, .inl (upd b84_c_this_stackOne b84_l1.toNatClampNeg (c_this_buffer b16_l2.toNatClampNeg))))] := hD
              have hR := rk_keep hR0 hn hS
              refine lv_iinc (v := (b84_l1 + 1)) (lv' := [(1, .int (b84_l1 + 1)), (0, .ref a_this), (2, .int b16_l2), (4, .int (c_this_buffer b16_l2.toNatClampNeg))]) hx hb dX10_isTree_97 hl (k := 1) rfl rfl (by decide) rfl (fun ls hl => ?_)
              exact B100 (b84_l1 + 1) (upd b84_c_this_stackOne b84_l1.toNatClampNeg (c_this_buffer b16_l2.toNatClampNeg)) h _ _ hP hD hS _ (lv_sub hl [1, 0, 2] rfl)
          refine lv_if_le (tgt := 84) hx hb dX10_isTree_66 (by decide) (fun hc7 => ?_) (fun hc7 => ?_)
          · have h := rk_if hc7 h
            exact B84 (b16_l1 + (-1)) b16_c_this_stackOne h _ _ hP hD hS _ (lv_sub hl [3, 2, 4, 0] rfl)
          · have h := rk_nif hc7 h
            refine lv_aload_n hx hb dX10_isTree_69 rfl (lv_at hl 3 rfl) ?_
            refine va_get (D := D) (ci := 9) (v := .ref a_this_stackOne) (C := RX10) (T := TX10) (N := 17) hx hb htc inX10 hown hV.1 hR 0 rfl rfl 9 (by decide) (htc _ w_4_2) (fun _ h9 => h9) rfl dX10_isTree_70 ?_
            refine lv_iload_n hx hb dX10_isTree_73 rfl (lv_at hl 2 rfl) ?_
            refine lv_iload_n hx hb dX10_isTree_74 rfl (lv_at hl 1 rfl) ?_
            refine lv_iconst (v := 1) hx hb dX10_isTree_75 (by decide) ?_
            refine lv_isub hx hb dX10_isTree_76 ?_
            refine lv_iload hx hb dX10_isTree_77 (lv_at hl 0 rfl) ?_
            refine lv_isub hx hb dX10_isTree_79 ?_
            refine va_iast hx hb hV.1 hP hD hS 0 0 rfl rfl hg2 dX10_isTree_80 (fun H locs hP hD hS => ?_)
            have hP : va_P D vwCl [(a_this_stackOne, .inl (cI, 64, .inl (upd b16_c_this_stackOne (b16_l1 + (-1)).toNatClampNeg (((b16_c_this_stackOne (b16_l1 + (-1)).toNatClampNeg) - (1 : Int32)) - (c_this_buffer b16_l2.toNatClampNeg)))))] H := hP
            have hD : va_D A [(a_this_stackOne, .inl (cI, 64, .inl (upd b16_c_this_stackOne (b16_l1 + (-1)).toNatClampNeg (((b16_c_this_stackOne (b16_l1 + (-1)).toNatClampNeg) - (1 : Int32)) - (c_this_buffer b16_l2.toNatClampNeg)))))] := hD
            have hR := rk_keep hR0 hn hS
            refine lv_iinc (v := ((b16_l1 + (-1)) + 1)) (lv' := [(1, .int ((b16_l1 + (-1)) + 1)), (4, .int (c_this_buffer b16_l2.toNatClampNeg)), (3, .int (b16_c_this_stackOne (b16_l1 + (-1)).toNatClampNeg)), (0, .ref a_this), (2, .int b16_l2)]) hx hb dX10_isTree_81 hl (k := 2) rfl rfl (by decide) rfl (fun ls hl => ?_)
            exact B84 ((b16_l1 + (-1)) + 1) (upd b16_c_this_stackOne (b16_l1 + (-1)).toNatClampNeg (((b16_c_this_stackOne (b16_l1 + (-1)).toNatClampNeg) - (1 : Int32)) - (c_this_buffer b16_l2.toNatClampNeg))) h _ _ hP hD hS _ (lv_sub hl [3, 0, 4, 1] rfl)
        · have h := rk_nnif hc4 h
          refine lv_iconst (v := 0) hx hb dX10_isTree_58 (by decide) ?_
          exact hret ((0 : Int32), b16_c_this_stackOne) _ _ _ _ h rk_nb0 dX10_isTree_59 hP hD hS
  exact L16 FU (1 : Int32) (0 : Int32) (upd c_this_stackOne 0 (c_this_of 0)) h _ _ hP hD hS _ (lv_sub hl [2, 1, 0] rfl)
set_option maxHeartbeats 4000000 in
set_option maxRecDepth 100000 in
theorem mtX10_isPartition (l : Launch) (D : va_G) (cI cJ cO : ClassId) (PL : va_W) (sz : Nat) (a_this : Nat) (a_this_chosen : Nat) (a_this_factorial : Nat) (a_this_catalan : Nat) (a_this_parted : Nat) (a_this_closed : Nat) (f_this_now : Int32) (a_this_of : Nat) (a_this_buffer : Nat) (a_this_made : Nat) (a_this_stackOne : Nat) (a_this_stackOther : Nat) (a_this_stackLong : Nat) (a_this_left : Nat) (f_this_entryMany : Int32) (a_this_entryFamily : Nat) (a_this_entryOf : Nat) (a_this_entryRank : Nat) (c_this_buffer : Nat → Int32) (c_this_of : Nat → Int32) (r0 : Int32) (h : fX10_isPartition c_this_buffer c_this_of = some r0) : Met l yX10_isPartition (rk_w yX10_isPartition cX10_isPartition 4 (some .boolean)) rmX10_isPartition (va_Pc [.ref a_this] (rk_B D (rk_TY cI cJ cO) [] [(a_this, .inr (9, [.ref a_this_chosen, .ref a_this_factorial, .ref a_this_catalan, .ref a_this_parted, .ref a_this_closed, .int f_this_now, .ref a_this_of, .ref a_this_buffer, .ref a_this_made, .ref a_this_stackOne, .ref a_this_stackOther, .ref a_this_stackLong, .ref a_this_left, .int f_this_entryMany, .ref a_this_entryFamily, .ref a_this_entryOf, .ref a_this_entryRank])), (a_this_buffer, .inl (cI, 60, .inl c_this_buffer)), (a_this_of, .inl (cI, 4, .inl c_this_of))] PL sz)) (rk_Qi r0 D [] [] sz) 0 0 (va_A [] sz) := by
  refine rk_metz h (fun x : Int32 => x) (fun x => []) (by decide) (Nat.le_of_ble_eq_true rfl) ?_
  intro p e s m args below meth c A ls Q hret hname hF hP hD hA hV hR0 hn hPL hnl hl h hS
  have hx := hF.1
  have hb := hF.2.1
  have hml := hF.2.2.1
  have hown : s.vm.findClass RX10 = some m.cls := hF.2.2.2.1
  have htc := hF.2.2.2.2
  have hP : va_P D vwCl [] s.heap := hP
  have hD : va_D A [] := hD
  have hR0 : va_P D vwCl [(a_this, .inr (9, [.ref a_this_chosen, .ref a_this_factorial, .ref a_this_catalan, .ref a_this_parted, .ref a_this_closed, .int f_this_now, .ref a_this_of, .ref a_this_buffer, .ref a_this_made, .ref a_this_stackOne, .ref a_this_stackOther, .ref a_this_stackLong, .ref a_this_left, .int f_this_entryMany, .ref a_this_entryFamily, .ref a_this_entryOf, .ref a_this_entryRank])), (a_this_buffer, .inl (cI, 60, .inl c_this_buffer)), (a_this_of, .inl (cI, 4, .inl c_this_of))] s.heap := hR0
  have hR := hR0
  have hl : lv_has ls 4 [(0, .ref a_this)] := hl
  unfold fX10_isPartition at h
  refine lv_aload_n hx hb dX10_isPartition_0 rfl (lv_at hl 0 rfl) ?_
  refine va_get (D := D) (ci := 9) (v := .ref a_this_of) (C := RX10) (T := TX10) (N := 17) hx hb htc inX10 hown hV.1 hR 0 rfl rfl 6 (by decide) (htc _ w_3_239) (fun _ h9 => h9) rfl dX10_isPartition_1 ?_
  refine lv_iconst (v := 1) hx hb dX10_isPartition_4 (by decide) ?_
  refine va_iald hx hb hV.1 hR 2 0 rfl rfl (show vp_in (1 : Int32) 4 from (by decide : ¬ ((1 : Int32) < 0 ∨ 4 ≤ (1 : Int32).toNatClampNeg))) dX10_isPartition_5 ?_
  refine W.eq (g2 := F0 m 6 ls [.int (c_this_of 1)]) rfl ?_
  refine lv_istore_n (lv' := [(1, .int (c_this_of 1)), (0, .ref a_this)]) hx hb dX10_isPartition_6 rfl hl (by decide) rfl (fun ls hl => ?_)
  refine lv_iconst (v := 0) hx hb dX10_isPartition_7 (by decide) ?_
  refine lv_istore_n (lv' := [(2, .int (0 : Int32)), (1, .int (c_this_of 1)), (0, .ref a_this)]) hx hb dX10_isPartition_8 rfl hl (by decide) rfl (fun ls hl => ?_)
  refine lv_iconst (v := 0) hx hb dX10_isPartition_9 (by decide) ?_
  refine lv_istore_n (lv' := [(3, .int (0 : Int32)), (2, .int (0 : Int32)), (1, .int (c_this_of 1)), (0, .ref a_this)]) hx hb dX10_isPartition_10 rfl hl (by decide) rfl (fun ls hl => ?_)
  have L11 : ∀ (n11 : Nat) (b11_l1 : Int32) (b11_l2 : Int32) (b11_l3 : Int32), rk_it3 (fX10_isPartition_L11 c_this_buffer c_this_of) n11 b11_l1 b11_l2 b11_l3 = some r0 → ∀ (H : Heap) (locs : List Loc), va_P D vwCl [] H → va_D A [] → va_S A s.heap H locs → ∀ (ls : Array Slot), lv_has ls 4 [(0, .ref a_this), (1, .int b11_l1), (2, .int b11_l2), (3, .int b11_l3)] → W p l e rmX10_isPartition s m args below meth c H locs 0 0 Q (F0 m 11 ls []) := by
    intro n11
    induction n11 with
    | zero => intro b11_l1 b11_l2 b11_l3 h; exact rk_no h
    | succ n11 ih11 =>
      intro b11_l1 b11_l2 b11_l3 h H locs hP hD hS ls hl
      have h : fX10_isPartition_L11 c_this_buffer c_this_of (rk_it3 (fX10_isPartition_L11 c_this_buffer c_this_of) n11) b11_l1 b11_l2 b11_l3 = some r0 := h
      unfold fX10_isPartition_L11 at h
      have hR := rk_keep hR0 hn hS
      refine lv_iload_n hx hb dX10_isPartition_11 rfl (lv_at hl 3 rfl) ?_
      refine lv_aload_n hx hb dX10_isPartition_12 rfl (lv_at hl 0 rfl) ?_
      refine va_get (D := D) (ci := 9) (v := .ref a_this_of) (C := RX10) (T := TX10) (N := 17) hx hb htc inX10 hown hV.1 hR 0 rfl rfl 6 (by decide) (htc _ w_3_239) (fun _ h9 => h9) rfl dX10_isPartition_13 ?_
      refine lv_iconst (v := 0) hx hb dX10_isPartition_16 (by decide) ?_
      refine va_iald hx hb hV.1 hR 2 0 rfl rfl (show vp_in (0 : Int32) 4 from (by decide : ¬ ((0 : Int32) < 0 ∨ 4 ≤ (0 : Int32).toNatClampNeg))) dX10_isPartition_17 ?_
      refine W.eq (g2 := F0 m 18 ls [.int (c_this_of 0), .int b11_l3]) rfl ?_
      refine lv_icmp_ge (tgt := 56) hx hb dX10_isPartition_18 (by decide) (fun hc1 => ?_) (fun hc1 => ?_)
      · have h := rk_if hc1 h
        refine lv_iload_n hx hb dX10_isPartition_56 rfl (lv_at hl 2 rfl) ?_
        refine lv_aload_n hx hb dX10_isPartition_57 rfl (lv_at hl 0 rfl) ?_
        refine va_get (D := D) (ci := 9) (v := .ref a_this_of) (C := RX10) (T := TX10) (N := 17) hx hb htc inX10 hown hV.1 hR 0 rfl rfl 6 (by decide) (htc _ w_3_239) (fun _ h9 => h9) rfl dX10_isPartition_58 ?_
        refine lv_iconst (v := 0) hx hb dX10_isPartition_61 (by decide) ?_
        refine va_iald hx hb hV.1 hR 2 0 rfl rfl (show vp_in (0 : Int32) 4 from (by decide : ¬ ((0 : Int32) < 0 ∨ 4 ≤ (0 : Int32).toNatClampNeg))) dX10_isPartition_62 ?_
        refine W.eq (g2 := F0 m 63 ls [.int (c_this_of 0), .int b11_l2]) rfl ?_
        refine lv_icmp_ne (tgt := 70) hx hb dX10_isPartition_63 (by decide) (fun hc2 => ?_) (fun hc2 => ?_)
        · have h := rk_if hc2 h
          refine lv_iconst (v := 0) hx hb dX10_isPartition_70 (by decide) ?_
          exact hret (0 : Int32) _ _ _ _ h rk_nb0 dX10_isPartition_71 hP hD hS
        · have h := rk_nnif hc2 h
          refine lv_iconst (v := 1) hx hb dX10_isPartition_66 (by decide) ?_
          refine lv_goto (tgt := 71) hx hb dX10_isPartition_67 (by decide) ?_
          exact hret (1 : Int32) _ _ _ _ h rk_nb1 dX10_isPartition_71 hP hD hS
      · have h := rk_nif hc1 h
        refine lv_aload_n hx hb dX10_isPartition_21 rfl (lv_at hl 0 rfl) ?_
        refine va_get (D := D) (ci := 9) (v := .ref a_this_buffer) (C := RX10) (T := TX10) (N := 17) hx hb htc inX10 hown hV.1 hR 0 rfl rfl 7 (by decide) (htc _ w_4_0) (fun _ h9 => h9) rfl dX10_isPartition_22 ?_
        refine lv_iload_n hx hb dX10_isPartition_25 rfl (lv_at hl 3 rfl) ?_
        obtain ⟨hg3, h⟩ := rk_gd h
        refine va_iald hx hb hV.1 hR 1 0 rfl rfl hg3 dX10_isPartition_26 ?_
        refine lv_i2l hx hb dX10_isPartition_27 rfl ?_
        refine lv_lconst (v := 0) hx hb dX10_isPartition_28 (by decide) ?_
        refine lv_iload_n hx hb dX10_isPartition_29 rfl (lv_at hl 1 rfl) ?_
        refine lv_i2l hx hb dX10_isPartition_30 rfl ?_
        obtain ⟨r_31, hc_31, h⟩ := rk_bd h
        refine rk_i (wr := []) (va_runS (As := [.long (c_this_buffer b11_l3.toNatClampNeg).toInt64, .long (0 : Int64), .long b11_l1.toInt64]) (rest := []) hF (mtX10_within l D cI cJ cO PL _ ((c_this_buffer b11_l3.toNatClampNeg).toInt64) (0 : Int64) b11_l1.toInt64 r_31 hc_31) (va_cwS 3 htc (rk_gVS w_4_50 w_4_51 w_1_7 w_4_52) rfl rfl rfl (by decide +kernel) ⟨(Nat.le_of_ble_eq_true rfl), (Nat.le_of_ble_eq_true rfl)⟩) (rk_preS hP hD hS hR hn hPL hnl hV [] [] rfl (by decide) rfl (by decide)) rfl rfl hl.1 rfl (lv_room (Nat.le_of_ble_eq_true rfl)) dX10_isPartition_31 ⟨(Nat.le_of_ble_eq_true rfl), (Nat.le_of_ble_eq_true rfl)⟩) hP hD hS hA hR0 hn [] [] rfl rfl (by decide) (by decide) (fun H locs hP hD hS hR => ?_)
        have hP : va_P D vwCl [] H := hP
        have hD : va_D A [] := hD
        refine lv_if_ne (tgt := 39) hx hb dX10_isPartition_34 (by decide) (fun hc4 => ?_) (fun hc4 => ?_)
        · have h := rk_if hc4 h
          refine lv_aload_n hx hb dX10_isPartition_39 rfl (lv_at hl 0 rfl) ?_
          refine va_get (D := D) (ci := 9) (v := .ref a_this_buffer) (C := RX10) (T := TX10) (N := 17) hx hb htc inX10 hown hV.1 hR 0 rfl rfl 7 (by decide) (htc _ w_4_0) (fun _ h9 => h9) rfl dX10_isPartition_40 ?_
          refine lv_iload_n hx hb dX10_isPartition_43 rfl (lv_at hl 3 rfl) ?_
          refine va_iald hx hb hV.1 hR 1 0 rfl rfl hg3 dX10_isPartition_44 ?_
          refine lv_istore_n (lv' := [(1, .int (c_this_buffer b11_l3.toNatClampNeg)), (0, .ref a_this), (2, .int b11_l2), (3, .int b11_l3)]) hx hb dX10_isPartition_45 rfl hl (by decide) rfl (fun ls hl => ?_)
          refine lv_iload_n hx hb dX10_isPartition_46 rfl (lv_at hl 2 rfl) ?_
          refine lv_iload_n hx hb dX10_isPartition_47 rfl (lv_at hl 0 rfl) ?_
          refine lv_iadd hx hb dX10_isPartition_48 ?_
          refine lv_istore_n (lv' := [(2, .int (b11_l2 + (c_this_buffer b11_l3.toNatClampNeg))), (1, .int (c_this_buffer b11_l3.toNatClampNeg)), (0, .ref a_this), (3, .int b11_l3)]) hx hb dX10_isPartition_49 rfl hl (by decide) rfl (fun ls hl => ?_)
          refine lv_iinc (v := (b11_l3 + 1)) (lv' := [(3, .int (b11_l3 + 1)), (2, .int (b11_l2 + (c_this_buffer b11_l3.toNatClampNeg))), (1, .int (c_this_buffer b11_l3.toNatClampNeg)), (0, .ref a_this)]) hx hb dX10_isPartition_50 hl (k := 3) rfl rfl (by decide) rfl (fun ls hl => ?_)
          refine lv_goto (tgt := 11) hx hb dX10_isPartition_53 (by decide) ?_
          exact ih11 (c_this_buffer b11_l3.toNatClampNeg) (b11_l2 + (c_this_buffer b11_l3.toNatClampNeg)) (b11_l3 + 1) h _ _ hP hD hS _ (lv_sub hl [3, 2, 1, 0] rfl)
        · have h := rk_nnif hc4 h
          refine lv_iconst (v := 0) hx hb dX10_isPartition_37 (by decide) ?_
          exact hret (0 : Int32) _ _ _ _ h rk_nb0 dX10_isPartition_38 hP hD hS
  exact L11 FU (c_this_of 1) (0 : Int32) (0 : Int32) h _ _ hP hD hS _ (lv_sub hl [3, 2, 1, 0] rfl)
set_option maxHeartbeats 4000000 in
set_option maxRecDepth 100000 in
theorem mtX10_manyIn (l : Launch) (D : va_G) (cI cJ cO : ClassId) (PL : va_W) (sz : Nat) (a_this : Nat) (a_this_chosen : Nat) (a_this_factorial : Nat) (a_this_catalan : Nat) (a_this_parted : Nat) (a_this_closed : Nat) (f_this_now : Int32) (a_this_of : Nat) (a_this_buffer : Nat) (a_this_made : Nat) (a_this_stackOne : Nat) (a_this_stackOther : Nat) (a_this_stackLong : Nat) (a_this_left : Nat) (f_this_entryMany : Int32) (a_this_entryFamily : Nat) (a_this_entryOf : Nat) (a_this_entryRank : Nat) (c_this_buffer : Nat → Int32) (c_this_of : Nat → Int32) (v_p1 : Int32) (r0 : Int32) (h : fX10_manyIn f_this_now c_this_buffer c_this_of v_p1 = some r0) : Met l yX10_manyIn (rk_w yX10_manyIn cX10_manyIn 4 (some .int)) rmX10_manyIn (va_Pc [.ref a_this, .int v_p1] (rk_B D (rk_TY cI cJ cO) [] [(a_this, .inr (9, [.ref a_this_chosen, .ref a_this_factorial, .ref a_this_catalan, .ref a_this_parted, .ref a_this_closed, .int f_this_now, .ref a_this_of, .ref a_this_buffer, .ref a_this_made, .ref a_this_stackOne, .ref a_this_stackOther, .ref a_this_stackLong, .ref a_this_left, .int f_this_entryMany, .ref a_this_entryFamily, .ref a_this_entryOf, .ref a_this_entryRank])), (a_this_buffer, .inl (cI, 60, .inl c_this_buffer)), (a_this_of, .inl (cI, 4, .inl c_this_of))] PL sz)) (rk_Qi r0 D [] [] sz) 0 0 (va_A [] sz) := by
  refine rk_meti h (fun x : Int32 => x) (fun x => []) (by decide) (Nat.le_of_ble_eq_true rfl) ?_
  intro p e s m args below meth c A ls Q hret hname hF hP hD hA hV hR0 hn hPL hnl hl h hS
  have hx := hF.1
  have hb := hF.2.1
  have hml := hF.2.2.1
  have hown : s.vm.findClass RX10 = some m.cls := hF.2.2.2.1
  have htc := hF.2.2.2.2
  have hP : va_P D vwCl [] s.heap := hP
  have hD : va_D A [] := hD
  have hR0 : va_P D vwCl [(a_this, .inr (9, [.ref a_this_chosen, .ref a_this_factorial, .ref a_this_catalan, .ref a_this_parted, .ref a_this_closed, .int f_this_now, .ref a_this_of, .ref a_this_buffer, .ref a_this_made, .ref a_this_stackOne, .ref a_this_stackOther, .ref a_this_stackLong, .ref a_this_left, .int f_this_entryMany, .ref a_this_entryFamily, .ref a_this_entryOf, .ref a_this_entryRank])), (a_this_buffer, .inl (cI, 60, .inl c_this_buffer)), (a_this_of, .inl (cI, 4, .inl c_this_of))] s.heap := hR0
  have hR := hR0
  have hl : lv_has ls 4 [(0, .ref a_this), (1, .int v_p1)] := hl
  unfold fX10_manyIn at h
  refine lv_iconst (v := 0) hx hb dX10_manyIn_0 (by decide) ?_
  refine lv_istore_n (lv' := [(2, .int (0 : Int32)), (0, .ref a_this), (1, .int v_p1)]) hx hb dX10_manyIn_1 rfl hl (by decide) rfl (fun ls hl => ?_)
  refine lv_iconst (v := 0) hx hb dX10_manyIn_2 (by decide) ?_
  refine lv_istore_n (lv' := [(3, .int (0 : Int32)), (2, .int (0 : Int32)), (0, .ref a_this), (1, .int v_p1)]) hx hb dX10_manyIn_3 rfl hl (by decide) rfl (fun ls hl => ?_)
  have L4 : ∀ (n4 : Nat) (b4_l2 : Int32) (b4_l3 : Int32), rk_it2 (fX10_manyIn_L4 f_this_now c_this_buffer c_this_of v_p1) n4 b4_l2 b4_l3 = some r0 → ∀ (H : Heap) (locs : List Loc), va_P D vwCl [] H → va_D A [] → va_S A s.heap H locs → ∀ (ls : Array Slot), lv_has ls 4 [(0, .ref a_this), (1, .int v_p1), (2, .int b4_l2), (3, .int b4_l3)] → W p l e rmX10_manyIn s m args below meth c H locs 0 0 Q (F0 m 4 ls []) := by
    intro n4
    induction n4 with
    | zero => intro b4_l2 b4_l3 h; exact rk_no h
    | succ n4 ih4 =>
      intro b4_l2 b4_l3 h H locs hP hD hS ls hl
      have h : fX10_manyIn_L4 f_this_now c_this_buffer c_this_of v_p1 (rk_it2 (fX10_manyIn_L4 f_this_now c_this_buffer c_this_of v_p1) n4) b4_l2 b4_l3 = some r0 := h
      unfold fX10_manyIn_L4 at h
      have hR := rk_keep hR0 hn hS
      refine lv_iload_n hx hb dX10_manyIn_4 rfl (lv_at hl 3 rfl) ?_
      refine lv_aload_n hx hb dX10_manyIn_5 rfl (lv_at hl 0 rfl) ?_
      obtain ⟨r_6, hc_6, h⟩ := rk_bd h
      refine rk_i (wr := []) (va_runV (C := RX10) (As := []) (rest := [.int b4_l3]) hF (mtX10_longNow l D cI cJ cO PL _ a_this a_this_chosen a_this_factorial a_this_catalan a_this_parted a_this_closed f_this_now a_this_of a_this_buffer a_this_made a_this_stackOne a_this_stackOther a_this_stackLong a_this_left f_this_entryMany a_this_entryFamily a_this_entryOf a_this_entryRank c_this_of r_6 hc_6) (cwV 0 htc (rk_gV w_4_106 w_4_108 ws_48 w_1_7 w_4_109) rfl rfl rfl (by decide +kernel) ⟨(Nat.le_of_ble_eq_true rfl), (Nat.le_of_ble_eq_true rfl)⟩) (rk_preV (va_recv hV.1 hR (ci := 9) (q0 := 0) rfl rfl) (rk_preS hP hD hS hR hn hPL hnl hV [] [(false, 0), (false, 2)] rfl (by decide) rfl (by decide))) rfl rfl hl.1 rfl (lv_room (Nat.le_of_ble_eq_true rfl)) dX10_manyIn_6 ⟨(Nat.le_of_ble_eq_true rfl), (Nat.le_of_ble_eq_true rfl)⟩) hP hD hS hA hR0 hn [] [] rfl rfl (by decide) (by decide) (fun H locs hP hD hS hR => ?_)
      have hP : va_P D vwCl [] H := hP
      have hD : va_D A [] := hD
      refine lv_icmp_ge (tgt := 36) hx hb dX10_manyIn_9 (by decide) (fun hc1 => ?_) (fun hc1 => ?_)
      · have h := rk_if hc1 h
        refine lv_iload_n hx hb dX10_manyIn_36 rfl (lv_at hl 2 rfl) ?_
        exact hret b4_l2 _ _ _ _ h dX10_manyIn_37 hP hD hS
      · have h := rk_nif hc1 h
        refine lv_iload_n hx hb dX10_manyIn_12 rfl (lv_at hl 2 rfl) ?_
        refine lv_aload_n hx hb dX10_manyIn_13 rfl (lv_at hl 0 rfl) ?_
        refine va_get (D := D) (ci := 9) (v := .ref a_this_buffer) (C := RX10) (T := TX10) (N := 17) hx hb htc inX10 hown hV.1 hR 0 rfl rfl 7 (by decide) (htc _ w_4_0) (fun _ h9 => h9) rfl dX10_manyIn_14 ?_
        refine lv_iload_n hx hb dX10_manyIn_17 rfl (lv_at hl 3 rfl) ?_
        obtain ⟨hg2, h⟩ := rk_gd h
        refine va_iald hx hb hV.1 hR 1 0 rfl rfl hg2 dX10_manyIn_18 ?_
        refine lv_iload_n hx hb dX10_manyIn_19 rfl (lv_at hl 1 rfl) ?_
        have B28 : ∀ (b28_t1 : Int32), fX10_manyIn_B28 b4_l2 b4_l3 (rk_it2 (fX10_manyIn_L4 f_this_now c_this_buffer c_this_of v_p1) n4) b28_t1 = some r0 → ∀ (H : Heap) (locs : List Loc), va_P D vwCl [] H → va_D A [] → va_S A s.heap H locs → ∀ (ls : Array Slot), lv_has ls 4 [(0, .ref a_this), (1, .int v_p1), (3, .int b4_l3)] → W p l e rmX10_manyIn s m args below meth c H locs 0 0 Q (F0 m 28 ls [.int b28_t1, .int b4_l2]) := by
          intro b28_t1 h H locs hP hD hS ls hl
          unfold fX10_manyIn_B28 at h
          have hR := rk_keep hR0 hn hS
          refine lv_iadd hx hb dX10_manyIn_28 ?_
          refine lv_istore_n (lv' := [(2, .int (b4_l2 + b28_t1)), (0, .ref a_this), (1, .int v_p1), (3, .int b4_l3)]) hx hb dX10_manyIn_29 rfl hl (by decide) rfl (fun ls hl => ?_)
          refine lv_iinc (v := (b4_l3 + 1)) (lv' := [(3, .int (b4_l3 + 1)), (2, .int (b4_l2 + b28_t1)), (0, .ref a_this), (1, .int v_p1)]) hx hb dX10_manyIn_30 hl (k := 3) rfl rfl (by decide) rfl (fun ls hl => ?_)
          refine lv_goto (tgt := 4) hx hb dX10_manyIn_33 (by decide) ?_
          exact ih4 (b4_l2 + b28_t1) (b4_l3 + 1) h _ _ hP hD hS _ (lv_sub hl [2, 3, 1, 0] rfl)
        refine lv_icmp_ne (tgt := 27) hx hb dX10_manyIn_20 (by decide) (fun hc3 => ?_) (fun hc3 => ?_)
        · have h := rk_if hc3 h
          refine lv_iconst (v := 0) hx hb dX10_manyIn_27 (by decide) ?_
          exact B28 (0 : Int32) h _ _ hP hD hS _ (lv_sub hl [0, 1, 3] rfl)
        · have h := rk_nnif hc3 h
          refine lv_iconst (v := 1) hx hb dX10_manyIn_23 (by decide) ?_
          refine lv_goto (tgt := 28) hx hb dX10_manyIn_24 (by decide) ?_
          exact B28 (1 : Int32) h _ _ hP hD hS _ (lv_sub hl [0, 1, 3] rfl)
  exact L4 FU (0 : Int32) (0 : Int32) h _ _ hP hD hS _ (lv_sub hl [2, 3, 1, 0] rfl)
set_option maxHeartbeats 4000000 in
set_option maxRecDepth 100000 in
theorem mtX10_isGood (l : Launch) (D : va_G) (cI cJ cO : ClassId) (PL : va_W) (sz : Nat) (a_this : Nat) (a_this_chosen : Nat) (a_this_factorial : Nat) (a_this_catalan : Nat) (a_this_parted : Nat) (a_this_closed : Nat) (f_this_now : Int32) (a_this_of : Nat) (a_this_buffer : Nat) (a_this_made : Nat) (a_this_stackOne : Nat) (a_this_stackOther : Nat) (a_this_stackLong : Nat) (a_this_left : Nat) (f_this_entryMany : Int32) (a_this_entryFamily : Nat) (a_this_entryOf : Nat) (a_this_entryRank : Nat) (c_this_stackOne : Nat → Int32) (c_this_buffer : Nat → Int32) (c_this_of : Nat → Int32) (r0 : Int32 × (Nat → Int32)) (h : fX10_isGood f_this_now c_this_stackOne c_this_buffer c_this_of = some r0) : Met l yX10_isGood (rk_w yX10_isGood cX10_isGood 1 (some .boolean)) rmX10_isGood (va_Pc [.ref a_this] (rk_B D (rk_TY cI cJ cO) [(a_this_stackOne, .inl (cI, 64, .inl c_this_stackOne))] [(a_this, .inr (9, [.ref a_this_chosen, .ref a_this_factorial, .ref a_this_catalan, .ref a_this_parted, .ref a_this_closed, .int f_this_now, .ref a_this_of, .ref a_this_buffer, .ref a_this_made, .ref a_this_stackOne, .ref a_this_stackOther, .ref a_this_stackLong, .ref a_this_left, .int f_this_entryMany, .ref a_this_entryFamily, .ref a_this_entryOf, .ref a_this_entryRank])), (a_this_buffer, .inl (cI, 60, .inl c_this_buffer)), (a_this_of, .inl (cI, 4, .inl c_this_of))] PL sz)) (rk_Qi r0.1 D [(a_this_stackOne, .inl (cI, 64, .inl r0.2))] [(a_this_stackOne, .inl (cI, 64, .inl c_this_stackOne))] sz) 0 0 (va_A [(a_this_stackOne, .inl (cI, 64, .inl c_this_stackOne))] sz) := by
  refine rk_metz h (fun x : Int32 × (Nat → Int32) => x.1) (fun x => [(a_this_stackOne, .inl (cI, 64, .inl x.2))]) (by decide) (Nat.le_of_ble_eq_true rfl) ?_
  intro p e s m args below meth c A ls Q hret hname hF hP hD hA hV hR0 hn hPL hnl hl h hS
  have hx := hF.1
  have hb := hF.2.1
  have hml := hF.2.2.1
  have hown : s.vm.findClass RX10 = some m.cls := hF.2.2.2.1
  have htc := hF.2.2.2.2
  have hP : va_P D vwCl [(a_this_stackOne, .inl (cI, 64, .inl c_this_stackOne))] s.heap := hP
  have hD : va_D A [(a_this_stackOne, .inl (cI, 64, .inl c_this_stackOne))] := hD
  have hR0 : va_P D vwCl [(a_this, .inr (9, [.ref a_this_chosen, .ref a_this_factorial, .ref a_this_catalan, .ref a_this_parted, .ref a_this_closed, .int f_this_now, .ref a_this_of, .ref a_this_buffer, .ref a_this_made, .ref a_this_stackOne, .ref a_this_stackOther, .ref a_this_stackLong, .ref a_this_left, .int f_this_entryMany, .ref a_this_entryFamily, .ref a_this_entryOf, .ref a_this_entryRank])), (a_this_buffer, .inl (cI, 60, .inl c_this_buffer)), (a_this_of, .inl (cI, 4, .inl c_this_of))] s.heap := hR0
  have hR := hR0
  have hl : lv_has ls 1 [(0, .ref a_this)] := hl
  unfold fX10_isGood at h
  refine lv_aload_n hx hb dX10_isGood_0 rfl (lv_at hl 0 rfl) ?_
  refine va_get (D := D) (ci := 9) (v := .int f_this_now) (C := RX10) (T := TX10) (N := 17) hx hb htc inX10 hown hV.1 hR 0 rfl rfl 5 (by decide) (htc _ w_3_238) (fun _ h9 => h9) rfl dX10_isGood_1 ?_
  by_cases hk1 : f_this_now = 0
  · have h := rk_if hk1 h
    refine lv_tableIn (off := 36) (tgt := 40) hx hb dX10_isGood_4 (by rw [hk1]; decide) (by rw [hk1]; decide) (by rw [hk1]; decide) (by decide) ?_
    refine lv_aload_n hx hb dX10_isGood_40 rfl (lv_at hl 0 rfl) ?_
    obtain ⟨r_41, hc_41, h⟩ := rk_bd h
    refine rk_i (wr := [(a_this_stackOne, .inl (cI, 64, .inl c_this_stackOne))]) (va_runV (C := RX10) (As := []) (rest := []) hF (mtX10_isSubset l D cI cJ cO PL _ a_this a_this_chosen a_this_factorial a_this_catalan a_this_parted a_this_closed f_this_now a_this_of a_this_buffer a_this_made a_this_stackOne a_this_stackOther a_this_stackLong a_this_left f_this_entryMany a_this_entryFamily a_this_entryOf a_this_entryRank c_this_buffer c_this_of r_41 hc_41) (cwV 0 htc (rk_gV w_4_188 w_4_190 ws_55 w_1_7 w_4_191) rfl rfl rfl (by decide +kernel) ⟨(Nat.le_of_ble_eq_true rfl), (Nat.le_of_ble_eq_true rfl)⟩) (rk_preV (va_recv hV.1 hR (ci := 9) (q0 := 0) rfl rfl) (rk_preS hP hD hS hR hn hPL hnl hV [] [(false, 0), (false, 1), (false, 2)] rfl (by decide) rfl (by decide))) rfl rfl hl.1 rfl (lv_room (Nat.le_of_ble_eq_true rfl)) dX10_isGood_41 ⟨(Nat.le_of_ble_eq_true rfl), (Nat.le_of_ble_eq_true rfl)⟩) hP hD hS hA hR0 hn [] [0] rfl rfl (by decide) (by decide) (fun H locs hP hD hS hR => ?_)
    have hP : va_P D vwCl [(a_this_stackOne, .inl (cI, 64, .inl c_this_stackOne))] H := hP
    have hD : va_D A [(a_this_stackOne, .inl (cI, 64, .inl c_this_stackOne))] := hD
    obtain ⟨hz2, h⟩ := rk_gp h
    exact hret (r_41, c_this_stackOne) _ _ _ _ h (rk_nz hz2) dX10_isGood_44 hP hD hS
  have h := rk_nif hk1 h
  by_cases hk3 : f_this_now = 1
  · have h := rk_if hk3 h
    refine lv_tableIn (off := 41) (tgt := 45) hx hb dX10_isGood_4 (by rw [hk3]; decide) (by rw [hk3]; decide) (by rw [hk3]; decide) (by decide) ?_
    refine lv_aload_n hx hb dX10_isGood_45 rfl (lv_at hl 0 rfl) ?_
    obtain ⟨r_46, hc_46, h⟩ := rk_bd h
    refine rk_i (wr := [(a_this_stackOne, .inl (cI, 64, .inl c_this_stackOne))]) (va_runV (C := RX10) (As := []) (rest := []) hF (mtX10_isPermutation l D cI cJ cO PL _ a_this a_this_chosen a_this_factorial a_this_catalan a_this_parted a_this_closed f_this_now a_this_of a_this_buffer a_this_made a_this_stackOne a_this_stackOther a_this_stackLong a_this_left f_this_entryMany a_this_entryFamily a_this_entryOf a_this_entryRank c_this_buffer c_this_of r_46 hc_46) (cwV 0 htc (rk_gV w_4_192 w_4_194 ws_56 w_1_7 w_4_195) rfl rfl rfl (by decide +kernel) ⟨(Nat.le_of_ble_eq_true rfl), (Nat.le_of_ble_eq_true rfl)⟩) (rk_preV (va_recv hV.1 hR (ci := 9) (q0 := 0) rfl rfl) (rk_preS hP hD hS hR hn hPL hnl hV [] [(false, 0), (false, 1), (false, 2)] rfl (by decide) rfl (by decide))) rfl rfl hl.1 rfl (lv_room (Nat.le_of_ble_eq_true rfl)) dX10_isGood_46 ⟨(Nat.le_of_ble_eq_true rfl), (Nat.le_of_ble_eq_true rfl)⟩) hP hD hS hA hR0 hn [] [0] rfl rfl (by decide) (by decide) (fun H locs hP hD hS hR => ?_)
    have hP : va_P D vwCl [(a_this_stackOne, .inl (cI, 64, .inl c_this_stackOne))] H := hP
    have hD : va_D A [(a_this_stackOne, .inl (cI, 64, .inl c_this_stackOne))] := hD
    obtain ⟨hz4, h⟩ := rk_gp h
    exact hret (r_46, c_this_stackOne) _ _ _ _ h (rk_nz hz4) dX10_isGood_49 hP hD hS
  have h := rk_nif hk3 h
  by_cases hk5 : f_this_now = 2
  · have h := rk_if hk5 h
    refine lv_tableIn (off := 46) (tgt := 50) hx hb dX10_isGood_4 (by rw [hk5]; decide) (by rw [hk5]; decide) (by rw [hk5]; decide) (by decide) ?_
    refine lv_aload_n hx hb dX10_isGood_50 rfl (lv_at hl 0 rfl) ?_
    obtain ⟨r_51, hc_51, h⟩ := rk_bd h
    refine rk_i (wr := []) (va_runV (C := RX10) (As := []) (rest := []) hF (mtX10_isWord l D cI cJ cO PL _ a_this a_this_chosen a_this_factorial a_this_catalan a_this_parted a_this_closed f_this_now a_this_of a_this_buffer a_this_made a_this_stackOne a_this_stackOther a_this_stackLong a_this_left f_this_entryMany a_this_entryFamily a_this_entryOf a_this_entryRank c_this_stackOne c_this_buffer c_this_of r_51 hc_51) (cwV 0 htc (rk_gV w_4_196 w_4_198 ws_57 w_1_7 w_4_199) rfl rfl rfl (by decide +kernel) ⟨(Nat.le_of_ble_eq_true rfl), (Nat.le_of_ble_eq_true rfl)⟩) (rk_preV (va_recv hV.1 hR (ci := 9) (q0 := 0) rfl rfl) (rk_preS hP hD hS hR hn hPL hnl hV [0] [(false, 0), (false, 1), (false, 2)] rfl (by decide) rfl (by decide))) rfl rfl hl.1 rfl (lv_room (Nat.le_of_ble_eq_true rfl)) dX10_isGood_51 ⟨(Nat.le_of_ble_eq_true rfl), (Nat.le_of_ble_eq_true rfl)⟩) hP hD hS hA hR0 hn [0] [] rfl rfl (by decide) (by decide) (fun H locs hP hD hS hR => ?_)
    have hP : va_P D vwCl [(a_this_stackOne, .inl (cI, 64, .inl r_51.2))] H := hP
    have hD : va_D A [(a_this_stackOne, .inl (cI, 64, .inl r_51.2))] := hD
    obtain ⟨hz6, h⟩ := rk_gp h
    exact hret (r_51.1, r_51.2) _ _ _ _ h (rk_nz hz6) dX10_isGood_54 hP hD hS
  have h := rk_nif hk5 h
  by_cases hk7 : f_this_now = 3
  · have h := rk_if hk7 h
    refine lv_tableIn (off := 51) (tgt := 55) hx hb dX10_isGood_4 (by rw [hk7]; decide) (by rw [hk7]; decide) (by rw [hk7]; decide) (by decide) ?_
    refine lv_aload_n hx hb dX10_isGood_55 rfl (lv_at hl 0 rfl) ?_
    obtain ⟨r_56, hc_56, h⟩ := rk_bd h
    refine rk_i (wr := []) (va_runV (C := RX10) (As := []) (rest := []) hF (mtX10_isTree l D cI cJ cO PL _ a_this a_this_chosen a_this_factorial a_this_catalan a_this_parted a_this_closed f_this_now a_this_of a_this_buffer a_this_made a_this_stackOne a_this_stackOther a_this_stackLong a_this_left f_this_entryMany a_this_entryFamily a_this_entryOf a_this_entryRank c_this_stackOne c_this_buffer c_this_of r_56 hc_56) (cwV 0 htc (rk_gV w_4_200 w_4_202 ws_58 w_1_7 w_4_203) rfl rfl rfl (by decide +kernel) ⟨(Nat.le_of_ble_eq_true rfl), (Nat.le_of_ble_eq_true rfl)⟩) (rk_preV (va_recv hV.1 hR (ci := 9) (q0 := 0) rfl rfl) (rk_preS hP hD hS hR hn hPL hnl hV [0] [(false, 0), (false, 1), (false, 2)] rfl (by decide) rfl (by decide))) rfl rfl hl.1 rfl (lv_room (Nat.le_of_ble_eq_true rfl)) dX10_isGood_56 ⟨(Nat.le_of_ble_eq_true rfl), (Nat.le_of_ble_eq_true rfl)⟩) hP hD hS hA hR0 hn [0] [] rfl rfl (by decide) (by decide) (fun H locs hP hD hS hR => ?_)
    have hP : va_P D vwCl [(a_this_stackOne, .inl (cI, 64, .inl r_56.2))] H := hP
    have hD : va_D A [(a_this_stackOne, .inl (cI, 64, .inl r_56.2))] := hD
    obtain ⟨hz8, h⟩ := rk_gp h
    exact hret (r_56.1, r_56.2) _ _ _ _ h (rk_nz hz8) dX10_isGood_59 hP hD hS
  have h := rk_nif hk7 h
  by_cases hk9 : f_this_now = 4
  · have h := rk_if hk9 h
    refine lv_tableIn (off := 56) (tgt := 60) hx hb dX10_isGood_4 (by rw [hk9]; decide) (by rw [hk9]; decide) (by rw [hk9]; decide) (by decide) ?_
    refine lv_aload_n hx hb dX10_isGood_60 rfl (lv_at hl 0 rfl) ?_
    obtain ⟨r_61, hc_61, h⟩ := rk_bd h
    refine rk_i (wr := [(a_this_stackOne, .inl (cI, 64, .inl c_this_stackOne))]) (va_runV (C := RX10) (As := []) (rest := []) hF (mtX10_isPartition l D cI cJ cO PL _ a_this a_this_chosen a_this_factorial a_this_catalan a_this_parted a_this_closed f_this_now a_this_of a_this_buffer a_this_made a_this_stackOne a_this_stackOther a_this_stackLong a_this_left f_this_entryMany a_this_entryFamily a_this_entryOf a_this_entryRank c_this_buffer c_this_of r_61 hc_61) (cwV 0 htc (rk_gV w_4_204 w_4_206 ws_59 w_1_7 w_4_207) rfl rfl rfl (by decide +kernel) ⟨(Nat.le_of_ble_eq_true rfl), (Nat.le_of_ble_eq_true rfl)⟩) (rk_preV (va_recv hV.1 hR (ci := 9) (q0 := 0) rfl rfl) (rk_preS hP hD hS hR hn hPL hnl hV [] [(false, 0), (false, 1), (false, 2)] rfl (by decide) rfl (by decide))) rfl rfl hl.1 rfl (lv_room (Nat.le_of_ble_eq_true rfl)) dX10_isGood_61 ⟨(Nat.le_of_ble_eq_true rfl), (Nat.le_of_ble_eq_true rfl)⟩) hP hD hS hA hR0 hn [] [0] rfl rfl (by decide) (by decide) (fun H locs hP hD hS hR => ?_)
    have hP : va_P D vwCl [(a_this_stackOne, .inl (cI, 64, .inl c_this_stackOne))] H := hP
    have hD : va_D A [(a_this_stackOne, .inl (cI, 64, .inl c_this_stackOne))] := hD
    obtain ⟨hz10, h⟩ := rk_gp h
    exact hret (r_61, c_this_stackOne) _ _ _ _ h (rk_nz hz10) dX10_isGood_64 hP hD hS
  have h := rk_nif hk9 h
  refine lv_tableOut (tgt := 65) hx hb dX10_isGood_4 (rk_tb5 hk1 hk3 hk5 hk7 hk9) (by decide) ?_
  refine lv_aload_n hx hb dX10_isGood_65 rfl (lv_at hl 0 rfl) ?_
  refine lv_iconst (v := 0) hx hb dX10_isGood_66 (by decide) ?_
  obtain ⟨r_67, hc_67, h⟩ := rk_bd h
  refine rk_i (wr := [(a_this_stackOne, .inl (cI, 64, .inl c_this_stackOne))]) (va_runV (C := RX10) (As := [.int (0 : Int32)]) (rest := []) hF (mtX10_manyIn l D cI cJ cO PL _ a_this a_this_chosen a_this_factorial a_this_catalan a_this_parted a_this_closed f_this_now a_this_of a_this_buffer a_this_made a_this_stackOne a_this_stackOther a_this_stackLong a_this_left f_this_entryMany a_this_entryFamily a_this_entryOf a_this_entryRank c_this_buffer c_this_of (0 : Int32) r_67 hc_67) (cwV 1 htc (rk_gV w_4_208 w_4_210 ws_60 w_1_7 w_4_211) rfl rfl rfl (by decide +kernel) ⟨(Nat.le_of_ble_eq_true rfl), (Nat.le_of_ble_eq_true rfl)⟩) (rk_preV (va_recv hV.1 hR (ci := 9) (q0 := 0) rfl rfl) (rk_preS hP hD hS hR hn hPL hnl hV [] [(false, 0), (false, 1), (false, 2)] rfl (by decide) rfl (by decide))) rfl rfl hl.1 rfl (lv_room (Nat.le_of_ble_eq_true rfl)) dX10_isGood_67 ⟨(Nat.le_of_ble_eq_true rfl), (Nat.le_of_ble_eq_true rfl)⟩) hP hD hS hA hR0 hn [] [0] rfl rfl (by decide) (by decide) (fun H locs hP hD hS hR => ?_)
  have hP : va_P D vwCl [(a_this_stackOne, .inl (cI, 64, .inl c_this_stackOne))] H := hP
  have hD : va_D A [(a_this_stackOne, .inl (cI, 64, .inl c_this_stackOne))] := hD
  refine lv_aload_n hx hb dX10_isGood_70 rfl (lv_at hl 0 rfl) ?_
  refine va_get (D := D) (ci := 9) (v := .ref a_this_of) (C := RX10) (T := TX10) (N := 17) hx hb htc inX10 hown hV.1 hR 0 rfl rfl 6 (by decide) (htc _ w_3_239) (fun _ h9 => h9) rfl dX10_isGood_71 ?_
  refine lv_iconst (v := 0) hx hb dX10_isGood_74 (by decide) ?_
  refine va_iald hx hb hV.1 hR 2 0 rfl rfl (show vp_in (0 : Int32) 4 from (by decide : ¬ ((0 : Int32) < 0 ∨ 4 ≤ (0 : Int32).toNatClampNeg))) dX10_isGood_75 ?_
  refine W.eq (g2 := F0 m 76 ls [.int (c_this_of 0), .int r_67]) rfl ?_
  have B125 : fX10_isGood_B125 c_this_stackOne = some r0 → ∀ (H : Heap) (locs : List Loc), va_P D vwCl [(a_this_stackOne, .inl (cI, 64, .inl c_this_stackOne))] H → va_D A [(a_this_stackOne, .inl (cI, 64, .inl c_this_stackOne))] → va_S A s.heap H locs → ∀ (ls : Array Slot), lv_has ls 1 [] → W p l e rmX10_isGood s m args below meth c H locs 0 0 Q (F0 m 125 ls []) := by
    intro  h H locs hP hD hS ls hl
    unfold fX10_isGood_B125 at h
    have hR := rk_keep hR0 hn hS
    refine lv_iconst (v := 0) hx hb dX10_isGood_125 (by decide) ?_
    exact hret ((0 : Int32), c_this_stackOne) _ _ _ _ h rk_nb0 dX10_isGood_126 hP hD hS
  refine lv_icmp_ne (tgt := 125) hx hb dX10_isGood_76 (by decide) (fun hc11 => ?_) (fun hc11 => ?_)
  · have h := rk_if hc11 h
    exact B125  h _ _ hP hD hS _ (lv_sub hl [] rfl)
  · have h := rk_nnif hc11 h
    refine lv_aload_n hx hb dX10_isGood_79 rfl (lv_at hl 0 rfl) ?_
    refine lv_iconst (v := 1) hx hb dX10_isGood_80 (by decide) ?_
    obtain ⟨r_81, hc_81, h⟩ := rk_bd h
    refine rk_i (wr := [(a_this_stackOne, .inl (cI, 64, .inl c_this_stackOne))]) (va_runV (C := RX10) (As := [.int (1 : Int32)]) (rest := []) hF (mtX10_manyIn l D cI cJ cO PL _ a_this a_this_chosen a_this_factorial a_this_catalan a_this_parted a_this_closed f_this_now a_this_of a_this_buffer a_this_made a_this_stackOne a_this_stackOther a_this_stackLong a_this_left f_this_entryMany a_this_entryFamily a_this_entryOf a_this_entryRank c_this_buffer c_this_of (1 : Int32) r_81 hc_81) (cwV 1 htc (rk_gV w_4_208 w_4_210 ws_60 w_1_7 w_4_211) rfl rfl rfl (by decide +kernel) ⟨(Nat.le_of_ble_eq_true rfl), (Nat.le_of_ble_eq_true rfl)⟩) (rk_preV (va_recv hV.1 hR (ci := 9) (q0 := 0) rfl rfl) (rk_preS hP hD hS hR hn hPL hnl hV [] [(false, 0), (false, 1), (false, 2)] rfl (by decide) rfl (by decide))) rfl rfl hl.1 rfl (lv_room (Nat.le_of_ble_eq_true rfl)) dX10_isGood_81 ⟨(Nat.le_of_ble_eq_true rfl), (Nat.le_of_ble_eq_true rfl)⟩) hP hD hS hA hR0 hn [] [0] rfl rfl (by decide) (by decide) (fun H locs hP hD hS hR => ?_)
    have hP : va_P D vwCl [(a_this_stackOne, .inl (cI, 64, .inl c_this_stackOne))] H := hP
    have hD : va_D A [(a_this_stackOne, .inl (cI, 64, .inl c_this_stackOne))] := hD
    refine lv_aload_n hx hb dX10_isGood_84 rfl (lv_at hl 0 rfl) ?_
    refine va_get (D := D) (ci := 9) (v := .ref a_this_of) (C := RX10) (T := TX10) (N := 17) hx hb htc inX10 hown hV.1 hR 0 rfl rfl 6 (by decide) (htc _ w_3_239) (fun _ h9 => h9) rfl dX10_isGood_85 ?_
    refine lv_iconst (v := 1) hx hb dX10_isGood_88 (by decide) ?_
    refine va_iald hx hb hV.1 hR 2 0 rfl rfl (show vp_in (1 : Int32) 4 from (by decide : ¬ ((1 : Int32) < 0 ∨ 4 ≤ (1 : Int32).toNatClampNeg))) dX10_isGood_89 ?_
    refine W.eq (g2 := F0 m 90 ls [.int (c_this_of 1), .int r_81]) rfl ?_
    refine lv_icmp_ne (tgt := 125) hx hb dX10_isGood_90 (by decide) (fun hc12 => ?_) (fun hc12 => ?_)
    · have h := rk_if hc12 h
      exact B125  h _ _ hP hD hS _ (lv_sub hl [] rfl)
    · have h := rk_nnif hc12 h
      refine lv_aload_n hx hb dX10_isGood_93 rfl (lv_at hl 0 rfl) ?_
      refine lv_iconst (v := 2) hx hb dX10_isGood_94 (by decide) ?_
      obtain ⟨r_95, hc_95, h⟩ := rk_bd h
      refine rk_i (wr := [(a_this_stackOne, .inl (cI, 64, .inl c_this_stackOne))]) (va_runV (C := RX10) (As := [.int (2 : Int32)]) (rest := []) hF (mtX10_manyIn l D cI cJ cO PL _ a_this a_this_chosen a_this_factorial a_this_catalan a_this_parted a_this_closed f_this_now a_this_of a_this_buffer a_this_made a_this_stackOne a_this_stackOther a_this_stackLong a_this_left f_this_entryMany a_this_entryFamily a_this_entryOf a_this_entryRank c_this_buffer c_this_of (2 : Int32) r_95 hc_95) (cwV 1 htc (rk_gV w_4_208 w_4_210 ws_60 w_1_7 w_4_211) rfl rfl rfl (by decide +kernel) ⟨(Nat.le_of_ble_eq_true rfl), (Nat.le_of_ble_eq_true rfl)⟩) (rk_preV (va_recv hV.1 hR (ci := 9) (q0 := 0) rfl rfl) (rk_preS hP hD hS hR hn hPL hnl hV [] [(false, 0), (false, 1), (false, 2)] rfl (by decide) rfl (by decide))) rfl rfl hl.1 rfl (lv_room (Nat.le_of_ble_eq_true rfl)) dX10_isGood_95 ⟨(Nat.le_of_ble_eq_true rfl), (Nat.le_of_ble_eq_true rfl)⟩) hP hD hS hA hR0 hn [] [0] rfl rfl (by decide) (by decide) (fun H locs hP hD hS hR => ?_)
      have hP : va_P D vwCl [(a_this_stackOne, .inl (cI, 64, .inl c_this_stackOne))] H := hP
      have hD : va_D A [(a_this_stackOne, .inl (cI, 64, .inl c_this_stackOne))] := hD
      refine lv_aload_n hx hb dX10_isGood_98 rfl (lv_at hl 0 rfl) ?_
      refine va_get (D := D) (ci := 9) (v := .ref a_this_of) (C := RX10) (T := TX10) (N := 17) hx hb htc inX10 hown hV.1 hR 0 rfl rfl 6 (by decide) (htc _ w_3_239) (fun _ h9 => h9) rfl dX10_isGood_99 ?_
      refine lv_iconst (v := 2) hx hb dX10_isGood_102 (by decide) ?_
      refine va_iald hx hb hV.1 hR 2 0 rfl rfl (show vp_in (2 : Int32) 4 from (by decide : ¬ ((2 : Int32) < 0 ∨ 4 ≤ (2 : Int32).toNatClampNeg))) dX10_isGood_103 ?_
      refine W.eq (g2 := F0 m 104 ls [.int (c_this_of 2), .int r_95]) rfl ?_
      refine lv_icmp_ne (tgt := 125) hx hb dX10_isGood_104 (by decide) (fun hc13 => ?_) (fun hc13 => ?_)
      · have h := rk_if hc13 h
        exact B125  h _ _ hP hD hS _ (lv_sub hl [] rfl)
      · have h := rk_nnif hc13 h
        refine lv_aload_n hx hb dX10_isGood_107 rfl (lv_at hl 0 rfl) ?_
        refine lv_iconst (v := 3) hx hb dX10_isGood_108 (by decide) ?_
        obtain ⟨r_109, hc_109, h⟩ := rk_bd h
        refine rk_i (wr := [(a_this_stackOne, .inl (cI, 64, .inl c_this_stackOne))]) (va_runV (C := RX10) (As := [.int (3 : Int32)]) (rest := []) hF (mtX10_manyIn l D cI cJ cO PL _ a_this a_this_chosen a_this_factorial a_this_catalan a_this_parted a_this_closed f_this_now a_this_of a_this_buffer a_this_made a_this_stackOne a_this_stackOther a_this_stackLong a_this_left f_this_entryMany a_this_entryFamily a_this_entryOf a_this_entryRank c_this_buffer c_this_of (3 : Int32) r_109 hc_109) (cwV 1 htc (rk_gV w_4_208 w_4_210 ws_60 w_1_7 w_4_211) rfl rfl rfl (by decide +kernel) ⟨(Nat.le_of_ble_eq_true rfl), (Nat.le_of_ble_eq_true rfl)⟩) (rk_preV (va_recv hV.1 hR (ci := 9) (q0 := 0) rfl rfl) (rk_preS hP hD hS hR hn hPL hnl hV [] [(false, 0), (false, 1), (false, 2)] rfl (by decide) rfl (by decide))) rfl rfl hl.1 rfl (lv_room (Nat.le_of_ble_eq_true rfl)) dX10_isGood_109 ⟨(Nat.le_of_ble_eq_true rfl), (Nat.le_of_ble_eq_true rfl)⟩) hP hD hS hA hR0 hn [] [0] rfl rfl (by decide) (by decide) (fun H locs hP hD hS hR => ?_)
        have hP : va_P D vwCl [(a_this_stackOne, .inl (cI, 64, .inl c_this_stackOne))] H := hP
        have hD : va_D A [(a_this_stackOne, .inl (cI, 64, .inl c_this_stackOne))] := hD
        refine lv_aload_n hx hb dX10_isGood_112 rfl (lv_at hl 0 rfl) ?_
        refine va_get (D := D) (ci := 9) (v := .ref a_this_of) (C := RX10) (T := TX10) (N := 17) hx hb htc inX10 hown hV.1 hR 0 rfl rfl 6 (by decide) (htc _ w_3_239) (fun _ h9 => h9) rfl dX10_isGood_113 ?_
        refine lv_iconst (v := 3) hx hb dX10_isGood_116 (by decide) ?_
        refine va_iald hx hb hV.1 hR 2 0 rfl rfl (show vp_in (3 : Int32) 4 from (by decide : ¬ ((3 : Int32) < 0 ∨ 4 ≤ (3 : Int32).toNatClampNeg))) dX10_isGood_117 ?_
        refine W.eq (g2 := F0 m 118 ls [.int (c_this_of 3), .int r_109]) rfl ?_
        refine lv_icmp_ne (tgt := 125) hx hb dX10_isGood_118 (by decide) (fun hc14 => ?_) (fun hc14 => ?_)
        · have h := rk_if hc14 h
          exact B125  h _ _ hP hD hS _ (lv_sub hl [] rfl)
        · have h := rk_nnif hc14 h
          refine lv_iconst (v := 1) hx hb dX10_isGood_121 (by decide) ?_
          refine lv_goto (tgt := 126) hx hb dX10_isGood_122 (by decide) ?_
          exact hret ((1 : Int32), c_this_stackOne) _ _ _ _ h rk_nb1 dX10_isGood_126 hP hD hS
set_option maxHeartbeats 4000000 in
set_option maxRecDepth 100000 in
theorem mtX10_isObject (l : Launch) (D : va_G) (cI cJ cO : ClassId) (PL : va_W) (sz : Nat) (a_this : Nat) (a_this_chosen : Nat) (a_this_factorial : Nat) (a_this_catalan : Nat) (a_this_parted : Nat) (a_this_closed : Nat) (f_this_now : Int32) (a_this_of : Nat) (a_this_buffer : Nat) (a_this_made : Nat) (a_this_stackOne : Nat) (a_this_stackOther : Nat) (a_this_stackLong : Nat) (a_this_left : Nat) (f_this_entryMany : Int32) (a_this_entryFamily : Nat) (a_this_entryOf : Nat) (a_this_entryRank : Nat) (c_this_stackOne : Nat → Int32) (c_this_buffer : Nat → Int32) (c_this_of : Nat → Int32) (r0 : Int32 × (Nat → Int32)) (h : fX10_isObject f_this_now c_this_stackOne c_this_buffer c_this_of = some r0) : Met l yX10_isObject (rk_w yX10_isObject cX10_isObject 1 (some .int)) rmX10_isObject (va_Pc [.ref a_this] (rk_B D (rk_TY cI cJ cO) [(a_this_stackOne, .inl (cI, 64, .inl c_this_stackOne))] [(a_this, .inr (9, [.ref a_this_chosen, .ref a_this_factorial, .ref a_this_catalan, .ref a_this_parted, .ref a_this_closed, .int f_this_now, .ref a_this_of, .ref a_this_buffer, .ref a_this_made, .ref a_this_stackOne, .ref a_this_stackOther, .ref a_this_stackLong, .ref a_this_left, .int f_this_entryMany, .ref a_this_entryFamily, .ref a_this_entryOf, .ref a_this_entryRank])), (a_this_buffer, .inl (cI, 60, .inl c_this_buffer)), (a_this_of, .inl (cI, 4, .inl c_this_of))] PL sz)) (rk_Qi r0.1 D [(a_this_stackOne, .inl (cI, 64, .inl r0.2))] [(a_this_stackOne, .inl (cI, 64, .inl c_this_stackOne))] sz) 0 0 (va_A [(a_this_stackOne, .inl (cI, 64, .inl c_this_stackOne))] sz) := by
  refine rk_meti h (fun x : Int32 × (Nat → Int32) => x.1) (fun x => [(a_this_stackOne, .inl (cI, 64, .inl x.2))]) (by decide) (Nat.le_of_ble_eq_true rfl) ?_
  intro p e s m args below meth c A ls Q hret hname hF hP hD hA hV hR0 hn hPL hnl hl h hS
  have hx := hF.1
  have hb := hF.2.1
  have hml := hF.2.2.1
  have hown : s.vm.findClass RX10 = some m.cls := hF.2.2.2.1
  have htc := hF.2.2.2.2
  have hP : va_P D vwCl [(a_this_stackOne, .inl (cI, 64, .inl c_this_stackOne))] s.heap := hP
  have hD : va_D A [(a_this_stackOne, .inl (cI, 64, .inl c_this_stackOne))] := hD
  have hR0 : va_P D vwCl [(a_this, .inr (9, [.ref a_this_chosen, .ref a_this_factorial, .ref a_this_catalan, .ref a_this_parted, .ref a_this_closed, .int f_this_now, .ref a_this_of, .ref a_this_buffer, .ref a_this_made, .ref a_this_stackOne, .ref a_this_stackOther, .ref a_this_stackLong, .ref a_this_left, .int f_this_entryMany, .ref a_this_entryFamily, .ref a_this_entryOf, .ref a_this_entryRank])), (a_this_buffer, .inl (cI, 60, .inl c_this_buffer)), (a_this_of, .inl (cI, 4, .inl c_this_of))] s.heap := hR0
  have hR := hR0
  have hl : lv_has ls 1 [(0, .ref a_this)] := hl
  unfold fX10_isObject at h
  refine lv_aload_n hx hb dX10_isObject_0 rfl (lv_at hl 0 rfl) ?_
  obtain ⟨r_1, hc_1, h⟩ := rk_bd h
  refine rk_i (wr := []) (va_runV (C := RX10) (As := []) (rest := []) hF (mtX10_isGood l D cI cJ cO PL _ a_this a_this_chosen a_this_factorial a_this_catalan a_this_parted a_this_closed f_this_now a_this_of a_this_buffer a_this_made a_this_stackOne a_this_stackOther a_this_stackLong a_this_left f_this_entryMany a_this_entryFamily a_this_entryOf a_this_entryRank c_this_stackOne c_this_buffer c_this_of r_1 hc_1) (cwV 0 htc (rk_gV w_4_184 w_4_186 ws_54 w_1_7 w_4_187) rfl rfl rfl (by decide +kernel) ⟨(Nat.le_of_ble_eq_true rfl), (Nat.le_of_ble_eq_true rfl)⟩) (rk_preV (va_recv hV.1 hR (ci := 9) (q0 := 0) rfl rfl) (rk_preS hP hD hS hR hn hPL hnl hV [0] [(false, 0), (false, 1), (false, 2)] rfl (by decide) rfl (by decide))) rfl rfl hl.1 rfl (lv_room (Nat.le_of_ble_eq_true rfl)) dX10_isObject_1 ⟨(Nat.le_of_ble_eq_true rfl), (Nat.le_of_ble_eq_true rfl)⟩) hP hD hS hA hR0 hn [0] [] rfl rfl (by decide) (by decide) (fun H locs hP hD hS hR => ?_)
  have hP : va_P D vwCl [(a_this_stackOne, .inl (cI, 64, .inl r_1.2))] H := hP
  have hD : va_D A [(a_this_stackOne, .inl (cI, 64, .inl r_1.2))] := hD
  refine lv_if_eq (tgt := 11) hx hb dX10_isObject_4 (by decide) (fun hc1 => ?_) (fun hc1 => ?_)
  · have h := rk_if hc1 h
    refine lv_iconst (v := 0) hx hb dX10_isObject_11 (by decide) ?_
    exact hret ((0 : Int32), r_1.2) _ _ _ _ h dX10_isObject_12 hP hD hS
  · have h := rk_nif hc1 h
    refine lv_iconst (v := 1) hx hb dX10_isObject_7 (by decide) ?_
    refine lv_goto (tgt := 12) hx hb dX10_isObject_8 (by decide) ?_
    exact hret ((1 : Int32), r_1.2) _ _ _ _ h dX10_isObject_12 hP hD hS
set_option maxHeartbeats 4000000 in
set_option maxRecDepth 100000 in
theorem mtX10_subsetRank (l : Launch) (D : va_G) (cI cJ cO : ClassId) (PL : va_W) (sz : Nat) (a_this : Nat) (a_this_chosen : Nat) (a_this_factorial : Nat) (a_this_catalan : Nat) (a_this_parted : Nat) (a_this_closed : Nat) (f_this_now : Int32) (a_this_of : Nat) (a_this_buffer : Nat) (a_this_made : Nat) (a_this_stackOne : Nat) (a_this_stackOther : Nat) (a_this_stackLong : Nat) (a_this_left : Nat) (f_this_entryMany : Int32) (a_this_entryFamily : Nat) (a_this_entryOf : Nat) (a_this_entryRank : Nat) (c_this_buffer : Nat → Int32) (c_this_chosen : Nat → Int64) (c_this_of : Nat → Int32) (r0 : Int64) (h : fX10_subsetRank c_this_buffer c_this_chosen c_this_of = some r0) : Met l yX10_subsetRank (rk_w yX10_subsetRank cX10_subsetRank 9 (some .long)) rmX10_subsetRank (va_Pc [.ref a_this] (rk_B D (rk_TY cI cJ cO) [] [(a_this, .inr (9, [.ref a_this_chosen, .ref a_this_factorial, .ref a_this_catalan, .ref a_this_parted, .ref a_this_closed, .int f_this_now, .ref a_this_of, .ref a_this_buffer, .ref a_this_made, .ref a_this_stackOne, .ref a_this_stackOther, .ref a_this_stackLong, .ref a_this_left, .int f_this_entryMany, .ref a_this_entryFamily, .ref a_this_entryOf, .ref a_this_entryRank])), (a_this_buffer, .inl (cI, 60, .inl c_this_buffer)), (a_this_chosen, .inl (cJ, 3721, .inr (.inl c_this_chosen))), (a_this_of, .inl (cI, 4, .inl c_this_of))] PL sz)) (rk_Ql r0 D [] [] sz) 0 0 (va_A [] sz) := by
  refine rk_metl h (fun x : Int64 => x) (fun x => []) (by decide) (Nat.le_of_ble_eq_true rfl) ?_
  intro p e s m args below meth c A ls Q hret hname hF hP hD hA hV hR0 hn hPL hnl hl h hS
  have hx := hF.1
  have hb := hF.2.1
  have hml := hF.2.2.1
  have hown : s.vm.findClass RX10 = some m.cls := hF.2.2.2.1
  have htc := hF.2.2.2.2
  have hP : va_P D vwCl [] s.heap := hP
  have hD : va_D A [] := hD
  have hR0 : va_P D vwCl [(a_this, .inr (9, [.ref a_this_chosen, .ref a_this_factorial, .ref a_this_catalan, .ref a_this_parted, .ref a_this_closed, .int f_this_now, .ref a_this_of, .ref a_this_buffer, .ref a_this_made, .ref a_this_stackOne, .ref a_this_stackOther, .ref a_this_stackLong, .ref a_this_left, .int f_this_entryMany, .ref a_this_entryFamily, .ref a_this_entryOf, .ref a_this_entryRank])), (a_this_buffer, .inl (cI, 60, .inl c_this_buffer)), (a_this_chosen, .inl (cJ, 3721, .inr (.inl c_this_chosen))), (a_this_of, .inl (cI, 4, .inl c_this_of))] s.heap := hR0
  have hR := hR0
  have hl : lv_has ls 9 [(0, .ref a_this)] := hl
  unfold fX10_subsetRank at h
  refine lv_aload_n hx hb dX10_subsetRank_0 rfl (lv_at hl 0 rfl) ?_
  refine va_get (D := D) (ci := 9) (v := .ref a_this_of) (C := RX10) (T := TX10) (N := 17) hx hb htc inX10 hown hV.1 hR 0 rfl rfl 6 (by decide) (htc _ w_3_239) (fun _ h9 => h9) rfl dX10_subsetRank_1 ?_
  refine lv_iconst (v := 0) hx hb dX10_subsetRank_4 (by decide) ?_
  refine va_iald hx hb hV.1 hR 3 0 rfl rfl (show vp_in (0 : Int32) 4 from (by decide : ¬ ((0 : Int32) < 0 ∨ 4 ≤ (0 : Int32).toNatClampNeg))) dX10_subsetRank_5 ?_
  refine W.eq (g2 := F0 m 6 ls [.int (c_this_of 0)]) rfl ?_
  refine lv_istore_n (lv' := [(1, .int (c_this_of 0)), (0, .ref a_this)]) hx hb dX10_subsetRank_6 rfl hl (by decide) rfl (fun ls hl => ?_)
  refine lv_aload_n hx hb dX10_subsetRank_7 rfl (lv_at hl 1 rfl) ?_
  refine va_get (D := D) (ci := 9) (v := .ref a_this_of) (C := RX10) (T := TX10) (N := 17) hx hb htc inX10 hown hV.1 hR 0 rfl rfl 6 (by decide) (htc _ w_3_239) (fun _ h9 => h9) rfl dX10_subsetRank_8 ?_
  refine lv_iconst (v := 1) hx hb dX10_subsetRank_11 (by decide) ?_
  refine va_iald hx hb hV.1 hR 3 0 rfl rfl (show vp_in (1 : Int32) 4 from (by decide : ¬ ((1 : Int32) < 0 ∨ 4 ≤ (1 : Int32).toNatClampNeg))) dX10_subsetRank_12 ?_
  refine W.eq (g2 := F0 m 13 ls [.int (c_this_of 1)]) rfl ?_
  refine lv_istore_n (lv' := [(2, .int (c_this_of 1)), (1, .int (c_this_of 0)), (0, .ref a_this)]) hx hb dX10_subsetRank_13 rfl hl (by decide) rfl (fun ls hl => ?_)
  refine lv_lconst (v := 0) hx hb dX10_subsetRank_14 (by decide) ?_
  refine lv_lstore_n (lv' := [(3, .long (0 : Int64)), (2, .int (c_this_of 1)), (1, .int (c_this_of 0)), (0, .ref a_this)]) hx hb dX10_subsetRank_15 rfl hl (by decide) rfl (fun ls hl => ?_)
  refine lv_iconst (v := 0) hx hb dX10_subsetRank_16 (by decide) ?_
  refine lv_istore (lv' := [(5, .int (0 : Int32)), (3, .long (0 : Int64)), (2, .int (c_this_of 1)), (1, .int (c_this_of 0)), (0, .ref a_this)]) hx hb dX10_subsetRank_17 hl (by decide) rfl (fun ls hl => ?_)
  refine lv_iconst (v := 0) hx hb dX10_subsetRank_19 (by decide) ?_
  refine lv_istore (lv' := [(6, .int (0 : Int32)), (5, .int (0 : Int32)), (3, .long (0 : Int64)), (2, .int (c_this_of 1)), (1, .int (c_this_of 0)), (0, .ref a_this)]) hx hb dX10_subsetRank_20 hl (by decide) rfl (fun ls hl => ?_)
  have L22 : ∀ (n22 : Nat) (b22_l3 : Int64) (b22_l5 : Int32) (b22_l6 : Int32), rk_it3 (fX10_subsetRank_L22 c_this_buffer c_this_chosen c_this_of) n22 b22_l3 b22_l5 b22_l6 = some r0 → ∀ (H : Heap) (locs : List Loc), va_P D vwCl [] H → va_D A [] → va_S A s.heap H locs → ∀ (ls : Array Slot), lv_has ls 9 [(0, .ref a_this), (1, .int (c_this_of 0)), (2, .int (c_this_of 1)), (3, .long b22_l3), (5, .int b22_l5), (6, .int b22_l6)] → W p l e rmX10_subsetRank s m args below meth c H locs 0 0 Q (F0 m 22 ls []) := by
    intro n22
    induction n22 with
    | zero => intro b22_l3 b22_l5 b22_l6 h; exact rk_no h
    | succ n22 ih22 =>
      intro b22_l3 b22_l5 b22_l6 h H locs hP hD hS ls hl
      have h : fX10_subsetRank_L22 c_this_buffer c_this_chosen c_this_of (rk_it3 (fX10_subsetRank_L22 c_this_buffer c_this_chosen c_this_of) n22) b22_l3 b22_l5 b22_l6 = some r0 := h
      unfold fX10_subsetRank_L22 at h
      have hR := rk_keep hR0 hn hS
      refine lv_iload hx hb dX10_subsetRank_22 (lv_at hl 5 rfl) ?_
      refine lv_iload_n hx hb dX10_subsetRank_24 rfl (lv_at hl 2 rfl) ?_
      refine lv_icmp_ge (tgt := 139) hx hb dX10_subsetRank_25 (by decide) (fun hc1 => ?_) (fun hc1 => ?_)
      · have h := rk_if hc1 h
        refine lv_lload_n hx hb dX10_subsetRank_139 rfl (lv_at hl 3 rfl) ?_
        exact hret b22_l3 _ _ _ _ h dX10_subsetRank_140 hP hD hS
      · have h := rk_nif hc1 h
        refine lv_aload_n hx hb dX10_subsetRank_28 rfl (lv_at hl 0 rfl) ?_
        refine va_get (D := D) (ci := 9) (v := .ref a_this_buffer) (C := RX10) (T := TX10) (N := 17) hx hb htc inX10 hown hV.1 hR 0 rfl rfl 7 (by decide) (htc _ w_4_0) (fun _ h9 => h9) rfl dX10_subsetRank_29 ?_
        refine lv_iload hx hb dX10_subsetRank_32 (lv_at hl 5 rfl) ?_
        obtain ⟨hg2, h⟩ := rk_gd h
        refine va_iald hx hb hV.1 hR 1 0 rfl rfl hg2 dX10_subsetRank_34 ?_
        refine lv_istore (lv' := [(7, .int (c_this_buffer b22_l6.toNatClampNeg)), (0, .ref a_this), (1, .int (c_this_of 0)), (2, .int (c_this_of 1)), (3, .long b22_l3), (5, .int b22_l5), (6, .int b22_l6)]) hx hb dX10_subsetRank_35 hl (by decide) rfl (fun ls hl => ?_)
        refine lv_aload_n hx hb dX10_subsetRank_37 rfl (lv_at hl 1 rfl) ?_
        refine va_get (D := D) (ci := 9) (v := .ref a_this_of) (C := RX10) (T := TX10) (N := 17) hx hb htc inX10 hown hV.1 hR 0 rfl rfl 6 (by decide) (htc _ w_3_239) (fun _ h9 => h9) rfl dX10_subsetRank_38 ?_
        refine lv_iconst (v := 2) hx hb dX10_subsetRank_41 (by decide) ?_
        refine va_iald hx hb hV.1 hR 3 0 rfl rfl (show vp_in (2 : Int32) 4 from (by decide : ¬ ((2 : Int32) < 0 ∨ 4 ≤ (2 : Int32).toNatClampNeg))) dX10_subsetRank_42 ?_
        refine W.eq (g2 := F0 m 43 ls [.int (c_this_of 2)]) rfl ?_
        have B133 : ∀ (b133_l3 : Int64) (b133_l5 : Int32), fX10_subsetRank_B133 b22_l6 (rk_it3 (fX10_subsetRank_L22 c_this_buffer c_this_chosen c_this_of) n22) b133_l3 b133_l5 = some r0 → ∀ (H : Heap) (locs : List Loc), va_P D vwCl [] H → va_D A [] → va_S A s.heap H locs → ∀ (ls : Array Slot), lv_has ls 9 [(0, .ref a_this), (1, .int (c_this_of 0)), (2, .int (c_this_of 1)), (3, .long b133_l3), (5, .int b133_l5), (6, .int b22_l6)] → W p l e rmX10_subsetRank s m args below meth c H locs 0 0 Q (F0 m 133 ls []) := by
          intro b133_l3 b133_l5 h H locs hP hD hS ls hl
          unfold fX10_subsetRank_B133 at h
          have hR := rk_keep hR0 hn hS
          refine lv_iinc (v := (b22_l6 + 1)) (lv' := [(6, .int (b22_l6 + 1)), (0, .ref a_this), (1, .int (c_this_of 0)), (2, .int (c_this_of 1)), (3, .long b133_l3), (5, .int b133_l5)]) hx hb dX10_subsetRank_133 hl (k := 5) rfl rfl (by decide) rfl (fun ls hl => ?_)
          refine lv_goto (tgt := 22) hx hb dX10_subsetRank_136 (by decide) ?_
          exact ih22 b133_l3 b133_l5 (b22_l6 + 1) h _ _ hP hD hS _ (lv_sub hl [1, 2, 3, 4, 5, 0] rfl)
        refine lv_if_ne (tgt := 91) hx hb dX10_subsetRank_43 (by decide) (fun hc3 => ?_) (fun hc3 => ?_)
        · have h := rk_if hc3 h
          refine lv_aload_n hx hb dX10_subsetRank_91 rfl (lv_at hl 1 rfl) ?_
          refine va_get (D := D) (ci := 9) (v := .ref a_this_of) (C := RX10) (T := TX10) (N := 17) hx hb htc inX10 hown hV.1 hR 0 rfl rfl 6 (by decide) (htc _ w_3_239) (fun _ h9 => h9) rfl dX10_subsetRank_92 ?_
          refine lv_iconst (v := 2) hx hb dX10_subsetRank_95 (by decide) ?_
          refine va_iald hx hb hV.1 hR 3 0 rfl rfl (show vp_in (2 : Int32) 4 from (by decide : ¬ ((2 : Int32) < 0 ∨ 4 ≤ (2 : Int32).toNatClampNeg))) dX10_subsetRank_96 ?_
          refine W.eq (g2 := F0 m 97 ls [.int (c_this_of 2)]) rfl ?_
          refine lv_iconst (v := 1) hx hb dX10_subsetRank_97 (by decide) ?_
          have B132 : ∀ (b132_t0 : Int64), fX10_subsetRank_B132 b22_l5 b22_l6 (rk_it3 (fX10_subsetRank_L22 c_this_buffer c_this_chosen c_this_of) n22) b132_t0 = some r0 → ∀ (H : Heap) (locs : List Loc), va_P D vwCl [] H → va_D A [] → va_S A s.heap H locs → ∀ (ls : Array Slot), lv_has ls 9 [(0, .ref a_this), (1, .int (c_this_of 0)), (2, .int (c_this_of 1)), (5, .int b22_l5), (6, .int b22_l6)] → W p l e rmX10_subsetRank s m args below meth c H locs 0 0 Q (F0 m 132 ls [.long b132_t0]) := by
            intro b132_t0 h H locs hP hD hS ls hl
            unfold fX10_subsetRank_B132 at h
            have hR := rk_keep hR0 hn hS
            refine lv_lstore_n (lv' := [(3, .long b132_t0), (0, .ref a_this), (1, .int (c_this_of 0)), (2, .int (c_this_of 1)), (5, .int b22_l5), (6, .int b22_l6)]) hx hb dX10_subsetRank_132 rfl hl (by decide) rfl (fun ls hl => ?_)
            exact B133 b132_t0 b22_l5 h _ _ hP hD hS _ (lv_sub hl [1, 2, 3, 0, 4, 5] rfl)
          refine lv_icmp_ne (tgt := 116) hx hb dX10_subsetRank_98 (by decide) (fun hc4 => ?_) (fun hc4 => ?_)
          · have h := rk_if hc4 h
            refine lv_aload_n hx hb dX10_subsetRank_116 rfl (lv_at hl 1 rfl) ?_
            refine lv_iload hx hb dX10_subsetRank_117 (lv_at hl 0 rfl) ?_
            refine lv_iconst (v := 1) hx hb dX10_subsetRank_119 (by decide) ?_
            refine lv_iadd hx hb dX10_subsetRank_120 ?_
            refine lv_iload hx hb dX10_subsetRank_121 (lv_at hl 6 rfl) ?_
            refine lv_iconst (v := 1) hx hb dX10_subsetRank_123 (by decide) ?_
            refine lv_iadd hx hb dX10_subsetRank_124 ?_
            obtain ⟨r_125, hc_125, h⟩ := rk_bd h
            refine rk_l (wr := []) (va_runV (C := RX10) (As := [.int ((c_this_buffer b22_l6.toNatClampNeg) + (1 : Int32)), .int (b22_l6 + (1 : Int32))]) (rest := []) hF (mtX10_choose l D cI cJ cO PL _ a_this a_this_chosen a_this_factorial a_this_catalan a_this_parted a_this_closed f_this_now a_this_of a_this_buffer a_this_made a_this_stackOne a_this_stackOther a_this_stackLong a_this_left f_this_entryMany a_this_entryFamily a_this_entryOf a_this_entryRank c_this_chosen ((c_this_buffer b22_l6.toNatClampNeg) + (1 : Int32)) (b22_l6 + (1 : Int32)) r_125 hc_125) (cwV 2 htc (rk_gV w_4_70 w_4_72 ws_39 w_1_7 w_4_73) rfl rfl rfl (by decide +kernel) ⟨(Nat.le_of_ble_eq_true rfl), (Nat.le_of_ble_eq_true rfl)⟩) (rk_preV (va_recv hV.1 hR (ci := 9) (q0 := 0) rfl rfl) (rk_preS hP hD hS hR hn hPL hnl hV [] [(false, 0), (false, 2)] rfl (by decide) rfl (by decide))) rfl rfl hl.1 rfl (lv_room (Nat.le_of_ble_eq_true rfl)) dX10_subsetRank_125 ⟨(Nat.le_of_ble_eq_true rfl), (Nat.le_of_ble_eq_true rfl)⟩) hP hD hS hA hR0 hn [] [] rfl rfl (by decide) (by decide) (fun H locs hP hD hS hR => ?_)
            have hP : va_P D vwCl [] H := hP
            have hD : va_D A [] := hD
            refine lv_lconst (v := 1) hx hb dX10_subsetRank_128 (by decide) ?_
            refine lv_lsub hx hb dX10_subsetRank_129 ?_
            refine lv_lload_n hx hb dX10_subsetRank_130 rfl (lv_at hl 4 rfl) ?_
            refine lv_lsub hx hb dX10_subsetRank_131 ?_
            exact B132 ((r_125 - (1 : Int64)) - b22_l3) h _ _ hP hD hS _ (lv_sub hl [1, 2, 3, 5, 6] rfl)
          · have h := rk_nnif hc4 h
            refine lv_lload_n hx hb dX10_subsetRank_101 rfl (lv_at hl 4 rfl) ?_
            refine lv_aload_n hx hb dX10_subsetRank_102 rfl (lv_at hl 1 rfl) ?_
            refine lv_iload hx hb dX10_subsetRank_103 (lv_at hl 0 rfl) ?_
            refine lv_iload hx hb dX10_subsetRank_105 (lv_at hl 6 rfl) ?_
            refine lv_iconst (v := 1) hx hb dX10_subsetRank_107 (by decide) ?_
            refine lv_iadd hx hb dX10_subsetRank_108 ?_
            obtain ⟨r_109, hc_109, h⟩ := rk_bd h
            refine rk_l (wr := []) (va_runV (C := RX10) (As := [.int (c_this_buffer b22_l6.toNatClampNeg), .int (b22_l6 + (1 : Int32))]) (rest := [.long b22_l3]) hF (mtX10_choose l D cI cJ cO PL _ a_this a_this_chosen a_this_factorial a_this_catalan a_this_parted a_this_closed f_this_now a_this_of a_this_buffer a_this_made a_this_stackOne a_this_stackOther a_this_stackLong a_this_left f_this_entryMany a_this_entryFamily a_this_entryOf a_this_entryRank c_this_chosen (c_this_buffer b22_l6.toNatClampNeg) (b22_l6 + (1 : Int32)) r_109 hc_109) (cwV 2 htc (rk_gV w_4_70 w_4_72 ws_39 w_1_7 w_4_73) rfl rfl rfl (by decide +kernel) ⟨(Nat.le_of_ble_eq_true rfl), (Nat.le_of_ble_eq_true rfl)⟩) (rk_preV (va_recv hV.1 hR (ci := 9) (q0 := 0) rfl rfl) (rk_preS hP hD hS hR hn hPL hnl hV [] [(false, 0), (false, 2)] rfl (by decide) rfl (by decide))) rfl rfl hl.1 rfl (lv_room (Nat.le_of_ble_eq_true rfl)) dX10_subsetRank_109 ⟨(Nat.le_of_ble_eq_true rfl), (Nat.le_of_ble_eq_true rfl)⟩) hP hD hS hA hR0 hn [] [] rfl rfl (by decide) (by decide) (fun H locs hP hD hS hR => ?_)
            have hP : va_P D vwCl [] H := hP
            have hD : va_D A [] := hD
            refine lv_ladd hx hb dX10_subsetRank_112 ?_
            refine lv_goto (tgt := 132) hx hb dX10_subsetRank_113 (by decide) ?_
            exact B132 (b22_l3 + r_109) h _ _ hP hD hS _ (lv_sub hl [1, 2, 3, 5, 6] rfl)
        · have h := rk_nnif hc3 h
          refine lv_iload hx hb dX10_subsetRank_46 (lv_at hl 5 rfl) ?_
          refine lv_istore (lv' := [(8, .int b22_l5), (7, .int (c_this_buffer b22_l6.toNatClampNeg)), (0, .ref a_this), (1, .int (c_this_of 0)), (2, .int (c_this_of 1)), (3, .long b22_l3), (5, .int b22_l5), (6, .int b22_l6)]) hx hb dX10_subsetRank_48 hl (by decide) rfl (fun ls hl => ?_)
          have L50 : ∀ (n50 : Nat) (b50_l3 : Int64) (b50_l8 : Int32), rk_it2 (fX10_subsetRank_L50 c_this_buffer c_this_chosen c_this_of b22_l6 (rk_it3 (fX10_subsetRank_L22 c_this_buffer c_this_chosen c_this_of) n22)) n50 b50_l3 b50_l8 = some r0 → ∀ (H : Heap) (locs : List Loc), va_P D vwCl [] H → va_D A [] → va_S A s.heap H locs → ∀ (ls : Array Slot), lv_has ls 9 [(0, .ref a_this), (1, .int (c_this_of 0)), (2, .int (c_this_of 1)), (3, .long b50_l3), (6, .int b22_l6), (7, .int (c_this_buffer b22_l6.toNatClampNeg)), (8, .int b50_l8)] → W p l e rmX10_subsetRank s m args below meth c H locs 0 0 Q (F0 m 50 ls []) := by
            intro n50
            induction n50 with
            | zero => intro b50_l3 b50_l8 h; exact rk_no h
            | succ n50 ih50 =>
              intro b50_l3 b50_l8 h H locs hP hD hS ls hl
              have h : fX10_subsetRank_L50 c_this_buffer c_this_chosen c_this_of b22_l6 (rk_it3 (fX10_subsetRank_L22 c_this_buffer c_this_chosen c_this_of) n22) (rk_it2 (fX10_subsetRank_L50 c_this_buffer c_this_chosen c_this_of b22_l6 (rk_it3 (fX10_subsetRank_L22 c_this_buffer c_this_chosen c_this_of) n22)) n50) b50_l3 b50_l8 = some r0 := h
              unfold fX10_subsetRank_L50 at h
              have hR := rk_keep hR0 hn hS
              refine lv_iload hx hb dX10_subsetRank_50 (lv_at hl 6 rfl) ?_
              refine lv_iload hx hb dX10_subsetRank_52 (lv_at hl 5 rfl) ?_
              refine lv_icmp_ge (tgt := 82) hx hb dX10_subsetRank_54 (by decide) (fun hc5 => ?_) (fun hc5 => ?_)
              · have h := rk_if hc5 h
                refine lv_iload hx hb dX10_subsetRank_82 (lv_at hl 5 rfl) ?_
                refine lv_iconst (v := 1) hx hb dX10_subsetRank_84 (by decide) ?_
                refine lv_iadd hx hb dX10_subsetRank_85 ?_
                refine lv_istore (lv' := [(5, .int ((c_this_buffer b22_l6.toNatClampNeg) + (1 : Int32))), (0, .ref a_this), (1, .int (c_this_of 0)), (2, .int (c_this_of 1)), (3, .long b50_l3), (6, .int b22_l6), (7, .int (c_this_buffer b22_l6.toNatClampNeg)), (8, .int b50_l8)]) hx hb dX10_subsetRank_86 hl (by decide) rfl (fun ls hl => ?_)
                refine lv_goto (tgt := 133) hx hb dX10_subsetRank_88 (by decide) ?_
                exact B133 b50_l3 ((c_this_buffer b22_l6.toNatClampNeg) + (1 : Int32)) h _ _ hP hD hS _ (lv_sub hl [1, 2, 3, 4, 0, 5] rfl)
              · have h := rk_nif hc5 h
                refine lv_lload_n hx hb dX10_subsetRank_57 rfl (lv_at hl 3 rfl) ?_
                refine lv_aload_n hx hb dX10_subsetRank_58 rfl (lv_at hl 0 rfl) ?_
                refine lv_iload_n hx hb dX10_subsetRank_59 rfl (lv_at hl 1 rfl) ?_
                refine lv_iconst (v := 1) hx hb dX10_subsetRank_60 (by decide) ?_
                refine lv_isub hx hb dX10_subsetRank_61 ?_
                refine lv_iload hx hb dX10_subsetRank_62 (lv_at hl 6 rfl) ?_
                refine lv_isub hx hb dX10_subsetRank_64 ?_
                refine lv_iload_n hx hb dX10_subsetRank_65 rfl (lv_at hl 2 rfl) ?_
                refine lv_iconst (v := 1) hx hb dX10_subsetRank_66 (by decide) ?_
                refine lv_isub hx hb dX10_subsetRank_67 ?_
                refine lv_iload hx hb dX10_subsetRank_68 (lv_at hl 4 rfl) ?_
                refine lv_isub hx hb dX10_subsetRank_70 ?_
                obtain ⟨r_71, hc_71, h⟩ := rk_bd h
                refine rk_l (wr := []) (va_runV (C := RX10) (As := [.int (((c_this_of 0) - (1 : Int32)) - b50_l8), .int (((c_this_of 1) - (1 : Int32)) - b22_l6)]) (rest := [.long b50_l3]) hF (mtX10_choose l D cI cJ cO PL _ a_this a_this_chosen a_this_factorial a_this_catalan a_this_parted a_this_closed f_this_now a_this_of a_this_buffer a_this_made a_this_stackOne a_this_stackOther a_this_stackLong a_this_left f_this_entryMany a_this_entryFamily a_this_entryOf a_this_entryRank c_this_chosen (((c_this_of 0) - (1 : Int32)) - b50_l8) (((c_this_of 1) - (1 : Int32)) - b22_l6) r_71 hc_71) (cwV 2 htc (rk_gV w_4_70 w_4_72 ws_39 w_1_7 w_4_73) rfl rfl rfl (by decide +kernel) ⟨(Nat.le_of_ble_eq_true rfl), (Nat.le_of_ble_eq_true rfl)⟩) (rk_preV (va_recv hV.1 hR (ci := 9) (q0 := 0) rfl rfl) (rk_preS hP hD hS hR hn hPL hnl hV [] [(false, 0), (false, 2)] rfl (by decide) rfl (by decide))) rfl rfl hl.1 rfl (lv_room (Nat.le_of_ble_eq_true rfl)) dX10_subsetRank_71 ⟨(Nat.le_of_ble_eq_true rfl), (Nat.le_of_ble_eq_true rfl)⟩) hP hD hS hA hR0 hn [] [] rfl rfl (by decide) (by decide) (fun H locs hP hD hS hR => ?_)
                have hP : va_P D vwCl [] H := hP
                have hD : va_D A [] := hD
                refine lv_ladd hx hb dX10_subsetRank_74 ?_
                refine lv_lstore_n (lv' := [(3, .long (b50_l3 + r_71)), (0, .ref a_this), (1, .int (c_this_of 0)), (2, .int (c_this_of 1)), (6, .int b22_l6), (7, .int (c_this_buffer b22_l6.toNatClampNeg)), (8, .int b50_l8)]) hx hb dX10_subsetRank_75 rfl hl (by decide) rfl (fun ls hl => ?_)
                refine lv_iinc (v := (b50_l8 + 1)) (lv' := [(8, .int (b50_l8 + 1)), (3, .long (b50_l3 + r_71)), (0, .ref a_this), (1, .int (c_this_of 0)), (2, .int (c_this_of 1)), (6, .int b22_l6), (7, .int (c_this_buffer b22_l6.toNatClampNeg))]) hx hb dX10_subsetRank_76 hl (k := 6) rfl rfl (by decide) rfl (fun ls hl => ?_)
                refine lv_goto (tgt := 50) hx hb dX10_subsetRank_79 (by decide) ?_
                exact ih50 (b50_l3 + r_71) (b50_l8 + 1) h _ _ hP hD hS _ (lv_sub hl [2, 3, 4, 1, 5, 6, 0] rfl)
          exact L50 FU b22_l3 b22_l5 h _ _ hP hD hS _ (lv_sub hl [2, 3, 4, 5, 7, 1, 0] rfl)
  exact L22 FU (0 : Int64) (0 : Int32) (0 : Int32) h _ _ hP hD hS _ (lv_sub hl [5, 4, 3, 2, 1, 0] rfl)
