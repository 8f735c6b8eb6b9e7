set_option maxHeartbeats 4000000 in
set_option maxRecDepth 100000 in
theorem mtX9_descents (l : Launch) (D : va_G) (cI cJ cO : ClassId) (PL : va_W) (sz : Nat) (a_this : Nat) (a_this_buffer : Nat) (a_this_draft : Nat) (a_this_desk : Nat) (a_this_archive : Nat) (a_this_present : Nat) (c_this_buffer : Nat → Int32) (a_this_desk_binomials : Nat) (a_this_desk_partitionCounts : Nat) (a_this_desk_treeCounts : Nat) (a_this_desk_sizes : Nat) (a_this_desk_starts : Nat) (a_this_desk_ranks : Nat) (a_this_desk_letters : Nat) (F_this_present : Fm) (c_this_desk_letters : Nat → Int32) (c_this_desk_sizes : Nat → Int32) (r0 : Int32 × (Nat → Int32) × (Nat → Int32)) (h : fX9_descents c_this_buffer F_this_present c_this_desk_letters c_this_desk_sizes = some r0) : Met l yX9_descents (rk_w yX9_descents cX9_descents 3 (some .int)) rmX9_descents (va_Pc [.ref a_this] (rk_B D (rk_TY cI cJ cO) [(a_this_desk_letters, .inl (cI, 4, .inl c_this_desk_letters)), (a_this_desk_sizes, .inl (cI, 60, .inl c_this_desk_sizes))] [(a_this, .inr (8, [.ref a_this_buffer, .ref a_this_draft, .ref a_this_desk, .ref a_this_archive, .ref a_this_present])), (a_this_buffer, .inl (cI, 60, .inl c_this_buffer)), (a_this_desk, .inr (2, [.ref a_this_desk_binomials, .ref a_this_desk_partitionCounts, .ref a_this_desk_treeCounts, .ref a_this_desk_sizes, .ref a_this_desk_starts, .ref a_this_desk_ranks, .ref a_this_desk_letters])), (a_this_present, rk_fam F_this_present)] PL sz)) (rk_Qi r0.1 D [(a_this_desk_letters, .inl (cI, 4, .inl r0.2.1)), (a_this_desk_sizes, .inl (cI, 60, .inl r0.2.2))] [(a_this_desk_letters, .inl (cI, 4, .inl c_this_desk_letters)), (a_this_desk_sizes, .inl (cI, 60, .inl c_this_desk_sizes))] sz) 0 0 (va_A [(a_this_desk_letters, .inl (cI, 4, .inl c_this_desk_letters)), (a_this_desk_sizes, .inl (cI, 60, .inl c_this_desk_sizes))] sz) := by
  refine rk_meti h (fun x : Int32 × (Nat → Int32) × (Nat → Int32) => x.1) (fun x => [(a_this_desk_letters, .inl (cI, 4, .inl x.2.1)), (a_this_desk_sizes, .inl (cI, 60, .inl x.2.2))]) (by decide) (Nat.le_of_ble_eq_true rfl) ?_
  intro p e s m args below meth c A ls Q hret hname hF hP hD hA hV hR0 hn hPL hnl hl h hS
  have hx := hF.1
  have hb := hF.2.1
  have hml := hF.2.2.1
  have hown : s.vm.findClass RX9 = some m.cls := hF.2.2.2.1
  have htc := hF.2.2.2.2
  have hP : va_P D vwCl [(a_this_desk_letters, .inl (cI, 4, .inl c_this_desk_letters)), (a_this_desk_sizes, .inl (cI, 60, .inl c_this_desk_sizes))] s.heap := hP
  have hD : va_D A [(a_this_desk_letters, .inl (cI, 4, .inl c_this_desk_letters)), (a_this_desk_sizes, .inl (cI, 60, .inl c_this_desk_sizes))] := hD
  have hR0 : va_P D vwCl [(a_this, .inr (8, [.ref a_this_buffer, .ref a_this_draft, .ref a_this_desk, .ref a_this_archive, .ref a_this_present])), (a_this_buffer, .inl (cI, 60, .inl c_this_buffer)), (a_this_desk, .inr (2, [.ref a_this_desk_binomials, .ref a_this_desk_partitionCounts, .ref a_this_desk_treeCounts, .ref a_this_desk_sizes, .ref a_this_desk_starts, .ref a_this_desk_ranks, .ref a_this_desk_letters])), (a_this_present, rk_fam F_this_present)] s.heap := hR0
  have hR := hR0
  have hl : lv_has ls 3 [(0, .ref a_this)] := hl
  unfold fX9_descents at h
  refine lv_aload_n hx hb dX9_descents_0 rfl (lv_at hl 0 rfl) ?_
  obtain ⟨r_1, hc_1, h⟩ := rk_bd h
  refine rk_i (wr := []) (va_runV (C := RX9) (As := []) (rest := []) hF (mtX9_holdsObject l D cI cJ cO PL _ a_this a_this_buffer a_this_draft a_this_desk a_this_archive a_this_present c_this_buffer a_this_desk_binomials a_this_desk_partitionCounts a_this_desk_treeCounts a_this_desk_sizes a_this_desk_starts a_this_desk_ranks a_this_desk_letters F_this_present c_this_desk_letters c_this_desk_sizes r_1 hc_1) (cwV 0 htc (rk_gV w_2_219 w_2_221 ws_15 w_1_1 w_2_222) rfl rfl rfl (by decide +kernel) ⟨(Nat.le_of_ble_eq_true rfl), (Nat.le_of_ble_eq_true rfl)⟩) (rk_preV (va_recv hV.1 hR (ci := 8) (q0 := 0) rfl rfl) (rk_preS hP hD hS hR hn hPL hnl hV [0, 1] [(false, 0), (false, 1), (false, 2), (false, 3)] rfl (by decide) rfl (by decide))) rfl rfl hl.1 rfl (lv_room (Nat.le_of_ble_eq_true rfl)) dX9_descents_1 ⟨(Nat.le_of_ble_eq_true rfl), (Nat.le_of_ble_eq_true rfl)⟩) hP hD hS hA hR0 hn [0, 1] [] rfl rfl (by decide) (by decide) (fun H locs hP hD hS hR => ?_)
  have hP : va_P D vwCl [(a_this_desk_letters, .inl (cI, 4, .inl r_1.2.1)), (a_this_desk_sizes, .inl (cI, 60, .inl r_1.2.2))] H := hP
  have hD : va_D A [(a_this_desk_letters, .inl (cI, 4, .inl r_1.2.1)), (a_this_desk_sizes, .inl (cI, 60, .inl r_1.2.2))] := hD
  refine lv_if_ne (tgt := 10) hx hb dX9_descents_4 (by decide) (fun hc1 => ?_) (fun hc1 => ?_)
  · have h := rk_if hc1 h
    refine lv_iconst (v := 0) hx hb dX9_descents_10 (by decide) ?_
    refine lv_istore_n (lv' := [(1, .int (0 : Int32)), (0, .ref a_this)]) hx hb dX9_descents_11 rfl hl (by decide) rfl (fun ls hl => ?_)
    refine lv_iconst (v := 1) hx hb dX9_descents_12 (by decide) ?_
    refine lv_istore_n (lv' := [(2, .int (1 : Int32)), (1, .int (0 : Int32)), (0, .ref a_this)]) hx hb dX9_descents_13 rfl hl (by decide) rfl (fun ls hl => ?_)
    have L14 : ∀ (n14 : Nat) (b14_l1 : Int32) (b14_l2 : Int32), rk_it2 (fX9_descents_L14 c_this_buffer F_this_present r_1) n14 b14_l1 b14_l2 = some r0 → ∀ (H : Heap) (locs : List Loc), va_P D vwCl [(a_this_desk_letters, .inl (cI, 4, .inl r_1.2.1)), (a_this_desk_sizes, .inl (cI, 60, .inl r_1.2.2))] H → va_D A [(a_this_desk_letters, .inl (cI, 4, .inl r_1.2.1)), (a_this_desk_sizes, .inl (cI, 60, .inl r_1.2.2))] → va_S A s.heap H locs → ∀ (ls : Array Slot), lv_has ls 3 [(0, .ref a_this), (1, .int b14_l1), (2, .int b14_l2)] → W p l e rmX9_descents s m args below meth c H locs 0 0 Q (F0 m 14 ls []) := by
      intro n14
      induction n14 with
      | zero => intro b14_l1 b14_l2 h; exact rk_no h
      | succ n14 ih14 =>
        intro b14_l1 b14_l2 h H locs hP hD hS ls hl
        have h : fX9_descents_L14 c_this_buffer F_this_present r_1 (rk_it2 (fX9_descents_L14 c_this_buffer F_this_present r_1) n14) b14_l1 b14_l2 = some r0 := h
        unfold fX9_descents_L14 at h
        have hR := rk_keep hR0 hn hS
        refine lv_iload_n hx hb dX9_descents_14 rfl (lv_at hl 2 rfl) ?_
        refine lv_aload_n hx hb dX9_descents_15 rfl (lv_at hl 0 rfl) ?_
        refine va_get (D := D) (ci := 8) (v := .ref a_this_present) (C := RX9) (T := TX9) (N := 5) hx hb htc inX9 hown hV.1 hR 0 rfl rfl 4 (by decide) (htc _ w_1_156) (fun _ h9 => h9) rfl dX9_descents_16 ?_
        refine rk_fget_width hx hb htc hown hV.1 hR 3 rfl (htc _ w_1_135) dX9_descents_19 ?_
        refine lv_icmp_ge (tgt := 55) hx hb dX9_descents_22 (by decide) (fun hc2 => ?_) (fun hc2 => ?_)
        · have h := rk_if hc2 h
          refine lv_iload_n hx hb dX9_descents_55 rfl (lv_at hl 1 rfl) ?_
          exact hret (b14_l1, r_1.2.1, r_1.2.2) _ _ _ _ h dX9_descents_56 hP hD hS
        · have h := rk_nif hc2 h
          refine lv_aload_n hx hb dX9_descents_25 rfl (lv_at hl 0 rfl) ?_
          refine va_get (D := D) (ci := 8) (v := .ref a_this_buffer) (C := RX9) (T := TX9) (N := 5) hx hb htc inX9 hown hV.1 hR 0 rfl rfl 0 (by decide) (htc _ w_1_152) (fun _ h9 => h9) rfl dX9_descents_26 ?_
          refine lv_iload_n hx hb dX9_descents_29 rfl (lv_at hl 2 rfl) ?_
          obtain ⟨r_30, hc_30, h⟩ := rk_bd h
          refine rk_i (wr := [(a_this_desk_letters, .inl (cI, 4, .inl r_1.2.1)), (a_this_desk_sizes, .inl (cI, 60, .inl r_1.2.2))]) (va_runS (As := [.ref a_this_buffer, .int b14_l2]) (rest := []) hF (mtX9_at l D cI cJ cO PL _ a_this_buffer 60 c_this_buffer b14_l2 r_30 hc_30) (va_cwS 2 htc (rk_gVS w_2_61 w_1_51 w_1_1 w_1_52) rfl rfl rfl (by decide +kernel) ⟨(Nat.le_of_ble_eq_true rfl), (Nat.le_of_ble_eq_true rfl)⟩) (rk_preS hP hD hS hR hn hPL hnl hV [] [(false, 1)] rfl (by decide) rfl (by decide)) rfl rfl hl.1 rfl (lv_room (Nat.le_of_ble_eq_true rfl)) dX9_descents_30 ⟨(Nat.le_of_ble_eq_true rfl), (Nat.le_of_ble_eq_true rfl)⟩) hP hD hS hA hR0 hn [] [0, 1] rfl rfl (by decide) (by decide) (fun H locs hP hD hS hR => ?_)
          have hP : va_P D vwCl [(a_this_desk_letters, .inl (cI, 4, .inl r_1.2.1)), (a_this_desk_sizes, .inl (cI, 60, .inl r_1.2.2))] H := hP
          have hD : va_D A [(a_this_desk_letters, .inl (cI, 4, .inl r_1.2.1)), (a_this_desk_sizes, .inl (cI, 60, .inl r_1.2.2))] := hD
          refine lv_aload_n hx hb dX9_descents_33 rfl (lv_at hl 0 rfl) ?_
          refine va_get (D := D) (ci := 8) (v := .ref a_this_buffer) (C := RX9) (T := TX9) (N := 5) hx hb htc inX9 hown hV.1 hR 0 rfl rfl 0 (by decide) (htc _ w_1_152) (fun _ h9 => h9) rfl dX9_descents_34 ?_
          refine lv_iload_n hx hb dX9_descents_37 rfl (lv_at hl 2 rfl) ?_
          refine lv_iconst (v := 1) hx hb dX9_descents_38 (by decide) ?_
          refine lv_isub hx hb dX9_descents_39 ?_
          obtain ⟨r_40, hc_40, h⟩ := rk_bd h
          refine rk_i (wr := [(a_this_desk_letters, .inl (cI, 4, .inl r_1.2.1)), (a_this_desk_sizes, .inl (cI, 60, .inl r_1.2.2))]) (va_runS (As := [.ref a_this_buffer, .int (b14_l2 - (1 : Int32))]) (rest := [.int r_30]) hF (mtX9_at l D cI cJ cO PL _ a_this_buffer 60 c_this_buffer (b14_l2 - (1 : Int32)) r_40 hc_40) (va_cwS 2 htc (rk_gVS w_2_61 w_1_51 w_1_1 w_1_52) rfl rfl rfl (by decide +kernel) ⟨(Nat.le_of_ble_eq_true rfl), (Nat.le_of_ble_eq_true rfl)⟩) (rk_preS hP hD hS hR hn hPL hnl hV [] [(false, 1)] rfl (by decide) rfl (by decide)) rfl rfl hl.1 rfl (lv_room (Nat.le_of_ble_eq_true rfl)) dX9_descents_40 ⟨(Nat.le_of_ble_eq_true rfl), (Nat.le_of_ble_eq_true rfl)⟩) hP hD hS hA hR0 hn [] [0, 1] rfl rfl (by decide) (by decide) (fun H locs hP hD hS hR => ?_)
          have hP : va_P D vwCl [(a_this_desk_letters, .inl (cI, 4, .inl r_1.2.1)), (a_this_desk_sizes, .inl (cI, 60, .inl r_1.2.2))] H := hP
          have hD : va_D A [(a_this_desk_letters, .inl (cI, 4, .inl r_1.2.1)), (a_this_desk_sizes, .inl (cI, 60, .inl r_1.2.2))] := hD
          have B49 : ∀ (b49_l1 : Int32), fX9_descents_B49 b14_l2 (rk_it2 (fX9_descents_L14 c_this_buffer F_this_present r_1) n14) b49_l1 = some r0 → ∀ (H : Heap) (locs : List Loc), va_P D vwCl [(a_this_desk_letters, .inl (cI, 4, .inl r_1.2.1)), (a_this_desk_sizes, .inl (cI, 60, .inl r_1.2.2))] H → va_D A [(a_this_desk_letters, .inl (cI, 4, .inl r_1.2.1)), (a_this_desk_sizes, .inl (cI, 60, .inl r_1.2.2))] → va_S A s.heap H locs → ∀ (ls : Array Slot), lv_has ls 3 [(0, .ref a_this), (1, .int b49_l1), (2, .int b14_l2)] → W p l e rmX9_descents s m args below meth c H locs 0 0 Q (F0 m 49 ls []) := by
            intro b49_l1 h H locs hP hD hS ls hl
            unfold fX9_descents_B49 at h
            have hR := rk_keep hR0 hn hS
            refine lv_iinc (v := (b14_l2 + 1)) (lv' := [(2, .int (b14_l2 + 1)), (0, .ref a_this), (1, .int b49_l1)]) hx hb dX9_descents_49 hl (k := 2) rfl rfl (by decide) rfl (fun ls hl => ?_)
            refine lv_goto (tgt := 14) hx hb dX9_descents_52 (by decide) ?_
            exact ih14 b49_l1 (b14_l2 + 1) h _ _ hP hD hS _ (lv_sub hl [1, 2, 0] rfl)
          refine lv_icmp_ge (tgt := 49) hx hb dX9_descents_43 (by decide) (fun hc3 => ?_) (fun hc3 => ?_)
          · have h := rk_if hc3 h
            exact B49 b14_l1 h _ _ hP hD hS _ hl
          · have h := rk_nif hc3 h
            refine lv_iinc (v := (b14_l1 + 1)) (lv' := [(1, .int (b14_l1 + 1)), (0, .ref a_this), (2, .int b14_l2)]) hx hb dX9_descents_46 hl (k := 1) rfl rfl (by decide) rfl (fun ls hl => ?_)
            exact B49 (b14_l1 + 1) h _ _ hP hD hS _ (lv_sub hl [1, 0, 2] rfl)
    exact L14 FU (0 : Int32) (1 : Int32) h _ _ hP hD hS _ (lv_sub hl [2, 1, 0] rfl)
  · have h := rk_nnif hc1 h
    refine lv_bipush (v := (-2)) hx hb dX9_descents_7 (by decide) ?_
    exact hret ((-2 : Int32), r_1.2.1, r_1.2.2) _ _ _ _ h dX9_descents_9 hP hD hS
set_option maxHeartbeats 4000000 in
set_option maxRecDepth 100000 in
theorem mtX9_store (l : Launch) (D : va_G) (cI cJ cO : ClassId) (PL : va_W) (sz : Nat) (a_this : Nat) (a_this_buffer : Nat) (a_this_draft : Nat) (a_this_desk : Nat) (a_this_archive : Nat) (a_this_present : Nat) (a_this_archive_families : Nat) (a_this_archive_places : Nat) (f_this_archive_used : Int32) (f_this_archive_product : Int64) (c_this_buffer : Nat → Int32) (a_this_desk_binomials : Nat) (a_this_desk_partitionCounts : Nat) (a_this_desk_treeCounts : Nat) (a_this_desk_sizes : Nat) (a_this_desk_starts : Nat) (a_this_desk_ranks : Nat) (a_this_desk_letters : Nat) (F_this_present : Fm) (c_this_archive_families : Nat → Option Nat) (c_this_archive_places : Nat → Int64) (c_this_desk_letters : Nat → Int32) (c_this_desk_ranks : Nat → Int64) (c_this_desk_sizes : Nat → Int32) (c_this_desk_binomials : Nat → Int64) (c_this_desk_partitionCounts : Nat → Int32) (c_this_desk_treeCounts : Nat → Int64) (r0 : Int32 × Int32 × Int64 × (Nat → Option Nat) × (Nat → Int64) × (Nat → Int32) × (Nat → Int64) × (Nat → Int32)) (h : fX9_store a_this_present f_this_archive_used f_this_archive_product c_this_buffer F_this_present c_this_archive_families c_this_archive_places c_this_desk_letters c_this_desk_ranks c_this_desk_sizes c_this_desk_binomials c_this_desk_partitionCounts c_this_desk_treeCounts = some r0) : Met l yX9_store (rk_w yX9_store cX9_store 1 (some .int)) rmX9_store (va_Pc [.ref a_this] (rk_B D (rk_TY cI cJ cO) [(a_this_archive, .inr (0, [.ref a_this_archive_families, .ref a_this_archive_places, .int f_this_archive_used, .long f_this_archive_product])), (a_this_archive_families, .inl (cO, 10, .inr (.inr (.inr (.inr c_this_archive_families))))), (a_this_archive_places, .inl (cJ, 10, .inr (.inl c_this_archive_places))), (a_this_desk_letters, .inl (cI, 4, .inl c_this_desk_letters)), (a_this_desk_ranks, .inl (cJ, 60, .inr (.inl c_this_desk_ranks))), (a_this_desk_sizes, .inl (cI, 60, .inl c_this_desk_sizes))] [(a_this, .inr (8, [.ref a_this_buffer, .ref a_this_draft, .ref a_this_desk, .ref a_this_archive, .ref a_this_present])), (a_this_buffer, .inl (cI, 60, .inl c_this_buffer)), (a_this_desk, .inr (2, [.ref a_this_desk_binomials, .ref a_this_desk_partitionCounts, .ref a_this_desk_treeCounts, .ref a_this_desk_sizes, .ref a_this_desk_starts, .ref a_this_desk_ranks, .ref a_this_desk_letters])), (a_this_desk_binomials, .inl (cJ, 1891, .inr (.inl c_this_desk_binomials))), (a_this_desk_partitionCounts, .inl (cI, 1891, .inl c_this_desk_partitionCounts)), (a_this_desk_treeCounts, .inl (cJ, 31, .inr (.inl c_this_desk_treeCounts))), (a_this_present, rk_fam F_this_present)] PL sz)) (rk_Qi r0.1 D [(a_this_archive, .inr (0, [.ref a_this_archive_families, .ref a_this_archive_places, .int r0.2.1, .long r0.2.2.1])), (a_this_archive_families, .inl (cO, 10, .inr (.inr (.inr (.inr r0.2.2.2.1))))), (a_this_archive_places, .inl (cJ, 10, .inr (.inl r0.2.2.2.2.1))), (a_this_desk_letters, .inl (cI, 4, .inl r0.2.2.2.2.2.1)), (a_this_desk_ranks, .inl (cJ, 60, .inr (.inl r0.2.2.2.2.2.2.1))), (a_this_desk_sizes, .inl (cI, 60, .inl r0.2.2.2.2.2.2.2))] [(a_this_archive, .inr (0, [.ref a_this_archive_families, .ref a_this_archive_places, .int f_this_archive_used, .long f_this_archive_product])), (a_this_archive_families, .inl (cO, 10, .inr (.inr (.inr (.inr c_this_archive_families))))), (a_this_archive_places, .inl (cJ, 10, .inr (.inl c_this_archive_places))), (a_this_desk_letters, .inl (cI, 4, .inl c_this_desk_letters)), (a_this_desk_ranks, .inl (cJ, 60, .inr (.inl c_this_desk_ranks))), (a_this_desk_sizes, .inl (cI, 60, .inl c_this_desk_sizes))] sz) 0 0 (va_A [(a_this_archive, .inr (0, [.ref a_this_archive_families, .ref a_this_archive_places, .int f_this_archive_used, .long f_this_archive_product])), (a_this_archive_families, .inl (cO, 10, .inr (.inr (.inr (.inr c_this_archive_families))))), (a_this_archive_places, .inl (cJ, 10, .inr (.inl c_this_archive_places))), (a_this_desk_letters, .inl (cI, 4, .inl c_this_desk_letters)), (a_this_desk_ranks, .inl (cJ, 60, .inr (.inl c_this_desk_ranks))), (a_this_desk_sizes, .inl (cI, 60, .inl c_this_desk_sizes))] sz) := by
  refine rk_meti h (fun x : Int32 × Int32 × Int64 × (Nat → Option Nat) × (Nat → Int64) × (Nat → Int32) × (Nat → Int64) × (Nat → Int32) => x.1) (fun x => [(a_this_archive, .inr (0, [.ref a_this_archive_families, .ref a_this_archive_places, .int x.2.1, .long x.2.2.1])), (a_this_archive_families, .inl (cO, 10, .inr (.inr (.inr (.inr x.2.2.2.1))))), (a_this_archive_places, .inl (cJ, 10, .inr (.inl x.2.2.2.2.1))), (a_this_desk_letters, .inl (cI, 4, .inl x.2.2.2.2.2.1)), (a_this_desk_ranks, .inl (cJ, 60, .inr (.inl x.2.2.2.2.2.2.1))), (a_this_desk_sizes, .inl (cI, 60, .inl x.2.2.2.2.2.2.2))]) (by decide) (Nat.le_of_ble_eq_true rfl) ?_
  intro p e s m args below meth c A ls Q hret hname hF hP hD hA hV hR0 hn hPL hnl hl h hS
  have hx := hF.1
  have hb := hF.2.1
  have hml := hF.2.2.1
  have hown : s.vm.findClass RX9 = some m.cls := hF.2.2.2.1
  have htc := hF.2.2.2.2
  have hP : va_P D vwCl [(a_this_archive, .inr (0, [.ref a_this_archive_families, .ref a_this_archive_places, .int f_this_archive_used, .long f_this_archive_product])), (a_this_archive_families, .inl (cO, 10, .inr (.inr (.inr (.inr c_this_archive_families))))), (a_this_archive_places, .inl (cJ, 10, .inr (.inl c_this_archive_places))), (a_this_desk_letters, .inl (cI, 4, .inl c_this_desk_letters)), (a_this_desk_ranks, .inl (cJ, 60, .inr (.inl c_this_desk_ranks))), (a_this_desk_sizes, .inl (cI, 60, .inl c_this_desk_sizes))] s.heap := hP
  have hD : va_D A [(a_this_archive, .inr (0, [.ref a_this_archive_families, .ref a_this_archive_places, .int f_this_archive_used, .long f_this_archive_product])), (a_this_archive_families, .inl (cO, 10, .inr (.inr (.inr (.inr c_this_archive_families))))), (a_this_archive_places, .inl (cJ, 10, .inr (.inl c_this_archive_places))), (a_this_desk_letters, .inl (cI, 4, .inl c_this_desk_letters)), (a_this_desk_ranks, .inl (cJ, 60, .inr (.inl c_this_desk_ranks))), (a_this_desk_sizes, .inl (cI, 60, .inl c_this_desk_sizes))] := hD
  have hR0 : va_P D vwCl [(a_this, .inr (8, [.ref a_this_buffer, .ref a_this_draft, .ref a_this_desk, .ref a_this_archive, .ref a_this_present])), (a_this_buffer, .inl (cI, 60, .inl c_this_buffer)), (a_this_desk, .inr (2, [.ref a_this_desk_binomials, .ref a_this_desk_partitionCounts, .ref a_this_desk_treeCounts, .ref a_this_desk_sizes, .ref a_this_desk_starts, .ref a_this_desk_ranks, .ref a_this_desk_letters])), (a_this_desk_binomials, .inl (cJ, 1891, .inr (.inl c_this_desk_binomials))), (a_this_desk_partitionCounts, .inl (cI, 1891, .inl c_this_desk_partitionCounts)), (a_this_desk_treeCounts, .inl (cJ, 31, .inr (.inl c_this_desk_treeCounts))), (a_this_present, rk_fam F_this_present)] s.heap := hR0
  have hR := hR0
  have hl : lv_has ls 1 [(0, .ref a_this)] := hl
  unfold fX9_store at h
  refine lv_aload_n hx hb dX9_store_0 rfl (lv_at hl 0 rfl) ?_
  obtain ⟨r_1, hc_1, h⟩ := rk_bd h
  refine rk_i (wr := [(a_this_archive, .inr (0, [.ref a_this_archive_families, .ref a_this_archive_places, .int f_this_archive_used, .long f_this_archive_product])), (a_this_archive_families, .inl (cO, 10, .inr (.inr (.inr (.inr c_this_archive_families))))), (a_this_archive_places, .inl (cJ, 10, .inr (.inl c_this_archive_places))), (a_this_desk_ranks, .inl (cJ, 60, .inr (.inl c_this_desk_ranks)))]) (va_runV (C := RX9) (As := []) (rest := []) hF (mtX9_holdsObject l D cI cJ cO PL _ a_this a_this_buffer a_this_draft a_this_desk a_this_archive a_this_present c_this_buffer a_this_desk_binomials a_this_desk_partitionCounts a_this_desk_treeCounts a_this_desk_sizes a_this_desk_starts a_this_desk_ranks a_this_desk_letters F_this_present c_this_desk_letters c_this_desk_sizes r_1 hc_1) (cwV 0 htc (rk_gV w_2_219 w_2_221 ws_15 w_1_1 w_2_222) rfl rfl rfl (by decide +kernel) ⟨(Nat.le_of_ble_eq_true rfl), (Nat.le_of_ble_eq_true rfl)⟩) (rk_preV (va_recv hV.1 hR (ci := 8) (q0 := 0) rfl rfl) (rk_preS hP hD hS hR hn hPL hnl hV [3, 5] [(false, 0), (false, 1), (false, 2), (false, 6)] rfl (by decide) rfl (by decide))) rfl rfl hl.1 rfl (lv_room (Nat.le_of_ble_eq_true rfl)) dX9_store_1 ⟨(Nat.le_of_ble_eq_true rfl), (Nat.le_of_ble_eq_true rfl)⟩) hP hD hS hA hR0 hn [3, 5] [0, 1, 2, 4] rfl rfl (by decide) (by decide) (fun H locs hP hD hS hR => ?_)
  have hP : va_P D vwCl [(a_this_archive, .inr (0, [.ref a_this_archive_families, .ref a_this_archive_places, .int f_this_archive_used, .long f_this_archive_product])), (a_this_archive_families, .inl (cO, 10, .inr (.inr (.inr (.inr c_this_archive_families))))), (a_this_archive_places, .inl (cJ, 10, .inr (.inl c_this_archive_places))), (a_this_desk_ranks, .inl (cJ, 60, .inr (.inl c_this_desk_ranks))), (a_this_desk_letters, .inl (cI, 4, .inl r_1.2.1)), (a_this_desk_sizes, .inl (cI, 60, .inl r_1.2.2))] H := hP
  have hD : va_D A [(a_this_archive, .inr (0, [.ref a_this_archive_families, .ref a_this_archive_places, .int f_this_archive_used, .long f_this_archive_product])), (a_this_archive_families, .inl (cO, 10, .inr (.inr (.inr (.inr c_this_archive_families))))), (a_this_archive_places, .inl (cJ, 10, .inr (.inl c_this_archive_places))), (a_this_desk_ranks, .inl (cJ, 60, .inr (.inl c_this_desk_ranks))), (a_this_desk_letters, .inl (cI, 4, .inl r_1.2.1)), (a_this_desk_sizes, .inl (cI, 60, .inl r_1.2.2))] := hD
  refine lv_if_ne (tgt := 10) hx hb dX9_store_4 (by decide) (fun hc1 => ?_) (fun hc1 => ?_)
  · have h := rk_if hc1 h
    refine lv_aload_n hx hb dX9_store_10 rfl (lv_at hl 0 rfl) ?_
    refine va_get (D := D) (ci := 8) (v := .ref a_this_archive) (C := RX9) (T := TX9) (N := 5) hx hb htc inX9 hown hV.1 hR 0 rfl rfl 3 (by decide) (htc _ w_1_155) (fun _ h9 => h9) rfl dX9_store_11 ?_
    refine lv_aload_n hx hb dX9_store_14 rfl (lv_at hl 0 rfl) ?_
    refine va_get (D := D) (ci := 8) (v := .ref a_this_present) (C := RX9) (T := TX9) (N := 5) hx hb htc inX9 hown hV.1 hR 0 rfl rfl 4 (by decide) (htc _ w_1_156) (fun _ h9 => h9) rfl dX9_store_15 ?_
    refine rk_fget_size hx hb htc hown hV.1 hR 6 rfl (htc _ w_1_140) dX9_store_18 ?_
    obtain ⟨r_21, hc_21, h⟩ := rk_bd h
    refine rk_i (wr := [(a_this_archive, .inr (0, [.ref a_this_archive_families, .ref a_this_archive_places, .int f_this_archive_used, .long f_this_archive_product])), (a_this_archive_families, .inl (cO, 10, .inr (.inr (.inr (.inr c_this_archive_families))))), (a_this_archive_places, .inl (cJ, 10, .inr (.inl c_this_archive_places))), (a_this_desk_ranks, .inl (cJ, 60, .inr (.inl c_this_desk_ranks))), (a_this_desk_letters, .inl (cI, 4, .inl r_1.2.1)), (a_this_desk_sizes, .inl (cI, 60, .inl r_1.2.2))]) (va_runVN (C := RX0) (As := [.long F_this_present.2.2.2.1]) (rest := []) hF (mtX0_hasRoomFor l D cI cJ cO PL _ a_this_archive a_this_archive_families a_this_archive_places f_this_archive_used f_this_archive_product F_this_present.2.2.2.1 r_21 hc_21) ⟨va_cnB 1 htc (rk_gw w_3_137) rfl rfl rfl (hV.2.1 _ nw_3_134) (htc _ w_1_4) (by decide +kernel) ⟨(Nat.le_of_ble_eq_true rfl), (Nat.le_of_ble_eq_true rfl)⟩, htc _ w_3_136, htc _ ws_21⟩ (rk_preV (va_recv hV.1 hP (ci := 0) (q0 := 0) rfl rfl) (rk_preS hP hD hS hR hn hPL hnl hV [] [(true, 0)] rfl (by decide) rfl (by decide))) rfl rfl hl.1 rfl (lv_room (Nat.le_of_ble_eq_true rfl)) dX9_store_21 ⟨(Nat.le_of_ble_eq_true rfl), (Nat.le_of_ble_eq_true rfl)⟩) hP hD hS hA hR0 hn [] [0, 1, 2, 3, 4, 5] rfl rfl (by decide) (by decide) (fun H locs hP hD hS hR => ?_)
    have hP : va_P D vwCl [(a_this_archive, .inr (0, [.ref a_this_archive_families, .ref a_this_archive_places, .int f_this_archive_used, .long f_this_archive_product])), (a_this_archive_families, .inl (cO, 10, .inr (.inr (.inr (.inr c_this_archive_families))))), (a_this_archive_places, .inl (cJ, 10, .inr (.inl c_this_archive_places))), (a_this_desk_ranks, .inl (cJ, 60, .inr (.inl c_this_desk_ranks))), (a_this_desk_letters, .inl (cI, 4, .inl r_1.2.1)), (a_this_desk_sizes, .inl (cI, 60, .inl r_1.2.2))] H := hP
    have hD : va_D A [(a_this_archive, .inr (0, [.ref a_this_archive_families, .ref a_this_archive_places, .int f_this_archive_used, .long f_this_archive_product])), (a_this_archive_families, .inl (cO, 10, .inr (.inr (.inr (.inr c_this_archive_families))))), (a_this_archive_places, .inl (cJ, 10, .inr (.inl c_this_archive_places))), (a_this_desk_ranks, .inl (cJ, 60, .inr (.inl c_this_desk_ranks))), (a_this_desk_letters, .inl (cI, 4, .inl r_1.2.1)), (a_this_desk_sizes, .inl (cI, 60, .inl r_1.2.2))] := hD
    refine lv_if_ne (tgt := 30) hx hb dX9_store_24 (by decide) (fun hc2 => ?_) (fun hc2 => ?_)
    · have h := rk_if hc2 h
      refine lv_aload_n hx hb dX9_store_30 rfl (lv_at hl 0 rfl) ?_
      refine va_get (D := D) (ci := 8) (v := .ref a_this_archive) (C := RX9) (T := TX9) (N := 5) hx hb htc inX9 hown hV.1 hR 0 rfl rfl 3 (by decide) (htc _ w_1_155) (fun _ h9 => h9) rfl dX9_store_31 ?_
      refine lv_aload_n hx hb dX9_store_34 rfl (lv_at hl 0 rfl) ?_
      refine va_get (D := D) (ci := 8) (v := .ref a_this_present) (C := RX9) (T := TX9) (N := 5) hx hb htc inX9 hown hV.1 hR 0 rfl rfl 4 (by decide) (htc _ w_1_156) (fun _ h9 => h9) rfl dX9_store_35 ?_
      refine lv_aload_n hx hb dX9_store_38 rfl (lv_at hl 0 rfl) ?_
      refine va_get (D := D) (ci := 8) (v := .ref a_this_present) (C := RX9) (T := TX9) (N := 5) hx hb htc inX9 hown hV.1 hR 0 rfl rfl 4 (by decide) (htc _ w_1_156) (fun _ h9 => h9) rfl dX9_store_39 ?_
      refine lv_aload_n hx hb dX9_store_42 rfl (lv_at hl 0 rfl) ?_
      refine va_get (D := D) (ci := 8) (v := .ref a_this_buffer) (C := RX9) (T := TX9) (N := 5) hx hb htc inX9 hown hV.1 hR 0 rfl rfl 0 (by decide) (htc _ w_1_152) (fun _ h9 => h9) rfl dX9_store_43 ?_
      refine lv_aload_n hx hb dX9_store_46 rfl (lv_at hl 0 rfl) ?_
      refine va_get (D := D) (ci := 8) (v := .ref a_this_desk) (C := RX9) (T := TX9) (N := 5) hx hb htc inX9 hown hV.1 hR 0 rfl rfl 2 (by decide) (htc _ w_1_154) (fun _ h9 => h9) rfl dX9_store_47 ?_
      obtain ⟨r_50, hc_50, h⟩ := rk_bd h
      refine rk_l (wr := [(a_this_archive, .inr (0, [.ref a_this_archive_families, .ref a_this_archive_places, .int f_this_archive_used, .long f_this_archive_product])), (a_this_archive_families, .inl (cO, 10, .inr (.inr (.inr (.inr c_this_archive_families))))), (a_this_archive_places, .inl (cJ, 10, .inr (.inl c_this_archive_places)))]) (vr_placeOf (As := [.ref a_this_buffer, .ref a_this_desk]) (rest := [.ref a_this_present, .ref a_this_archive]) hF htc hV w_3_14 rfl PL a_this_present F_this_present a_this_buffer c_this_buffer a_this_desk a_this_desk_binomials a_this_desk_partitionCounts a_this_desk_treeCounts a_this_desk_sizes a_this_desk_starts a_this_desk_ranks a_this_desk_letters r_1.2.1 c_this_desk_ranks r_1.2.2 c_this_desk_binomials c_this_desk_partitionCounts c_this_desk_treeCounts r_50 hc_50 (hR 6 _ rfl) (rk_preS hP hD hS hR hn hPL hnl hV [4, 3, 5] [(false, 6), (false, 1), (false, 2), (false, 3), (false, 4), (false, 5)] rfl (by decide) rfl (by decide)) rfl rfl hl.1 rfl (lv_room (Nat.le_of_ble_eq_true rfl)) dX9_store_50 ⟨(Nat.le_of_ble_eq_true rfl), (Nat.le_of_ble_eq_true rfl)⟩ (Nat.le_of_ble_eq_true rfl) (Nat.le_of_ble_eq_true rfl) rfl) hP hD hS hA hR0 hn [4, 3, 5] [0, 1, 2] rfl rfl (by decide) (by decide) (fun H locs hP hD hS hR => ?_)
      have hP : va_P D vwCl [(a_this_archive, .inr (0, [.ref a_this_archive_families, .ref a_this_archive_places, .int f_this_archive_used, .long f_this_archive_product])), (a_this_archive_families, .inl (cO, 10, .inr (.inr (.inr (.inr c_this_archive_families))))), (a_this_archive_places, .inl (cJ, 10, .inr (.inl c_this_archive_places))), (a_this_desk_letters, .inl (cI, 4, .inl r_50.2.1)), (a_this_desk_ranks, .inl (cJ, 60, .inr (.inl r_50.2.2.1))), (a_this_desk_sizes, .inl (cI, 60, .inl r_50.2.2.2))] H := hP
      have hD : va_D A [(a_this_archive, .inr (0, [.ref a_this_archive_families, .ref a_this_archive_places, .int f_this_archive_used, .long f_this_archive_product])), (a_this_archive_families, .inl (cO, 10, .inr (.inr (.inr (.inr c_this_archive_families))))), (a_this_archive_places, .inl (cJ, 10, .inr (.inl c_this_archive_places))), (a_this_desk_letters, .inl (cI, 4, .inl r_50.2.1)), (a_this_desk_ranks, .inl (cJ, 60, .inr (.inl r_50.2.2.1))), (a_this_desk_sizes, .inl (cI, 60, .inl r_50.2.2.2))] := hD
      obtain ⟨r_53, hc_53, h⟩ := rk_bd h
      refine rk_i (wr := [(a_this_desk_letters, .inl (cI, 4, .inl r_50.2.1)), (a_this_desk_ranks, .inl (cJ, 60, .inr (.inl r_50.2.2.1))), (a_this_desk_sizes, .inl (cI, 60, .inl r_50.2.2.2))]) (va_runVN (C := RX0) (As := [.ref a_this_present, .long r_50.1]) (rest := []) hF (mtX0_append l D cI cJ cO PL _ a_this_archive a_this_archive_families a_this_archive_places f_this_archive_used f_this_archive_product a_this_present F_this_present c_this_archive_families c_this_archive_places r_50.1 r_53 hc_53) ⟨va_cnB 2 htc (rk_gw w_3_143) rfl rfl rfl (hV.2.1 _ nw_3_140) (htc _ w_1_4) (by decide +kernel) ⟨(Nat.le_of_ble_eq_true rfl), (Nat.le_of_ble_eq_true rfl)⟩, htc _ w_3_142, htc _ ws_22⟩ (rk_preV (va_recv hV.1 hP (ci := 0) (q0 := 0) rfl rfl) (rk_preS hP hD hS hR hn hPL hnl hV [0, 1, 2] [(false, 6)] rfl (by decide) rfl (by decide))) rfl rfl hl.1 rfl (lv_room (Nat.le_of_ble_eq_true rfl)) dX9_store_53 ⟨(Nat.le_of_ble_eq_true rfl), (Nat.le_of_ble_eq_true rfl)⟩) hP hD hS hA hR0 hn [0, 1, 2] [3, 4, 5] rfl rfl (by decide) (by decide) (fun H locs hP hD hS hR => ?_)
      have hP : va_P D vwCl [(a_this_desk_letters, .inl (cI, 4, .inl r_50.2.1)), (a_this_desk_ranks, .inl (cJ, 60, .inr (.inl r_50.2.2.1))), (a_this_desk_sizes, .inl (cI, 60, .inl r_50.2.2.2)), (a_this_archive, .inr (0, [.ref a_this_archive_families, .ref a_this_archive_places, .int r_53.2.1, .long r_53.2.2.1])), (a_this_archive_families, .inl (cO, 10, .inr (.inr (.inr (.inr r_53.2.2.2.1))))), (a_this_archive_places, .inl (cJ, 10, .inr (.inl r_53.2.2.2.2)))] H := hP
      have hD : va_D A [(a_this_desk_letters, .inl (cI, 4, .inl r_50.2.1)), (a_this_desk_ranks, .inl (cJ, 60, .inr (.inl r_50.2.2.1))), (a_this_desk_sizes, .inl (cI, 60, .inl r_50.2.2.2)), (a_this_archive, .inr (0, [.ref a_this_archive_families, .ref a_this_archive_places, .int r_53.2.1, .long r_53.2.2.1])), (a_this_archive_families, .inl (cO, 10, .inr (.inr (.inr (.inr r_53.2.2.2.1))))), (a_this_archive_places, .inl (cJ, 10, .inr (.inl r_53.2.2.2.2)))] := hD
      exact hret (r_53.1, r_53.2.1, r_53.2.2.1, r_53.2.2.2.1, r_53.2.2.2.2, r_50.2.1, r_50.2.2.1, r_50.2.2.2) _ _ _ _ h dX9_store_56 (hP.sub [3, 4, 5, 0, 1, 2] rfl) (hD.sub [3, 4, 5, 0, 1, 2] (by decide) rfl) hS
    · have h := rk_nnif hc2 h
      refine lv_bipush (v := (-4)) hx hb dX9_store_27 (by decide) ?_
      exact hret ((-4 : Int32), f_this_archive_used, f_this_archive_product, c_this_archive_families, c_this_archive_places, r_1.2.1, c_this_desk_ranks, r_1.2.2) _ _ _ _ h dX9_store_29 (hP.sub [0, 1, 2, 4, 3, 5] rfl) (hD.sub [0, 1, 2, 4, 3, 5] (by decide) rfl) hS
  · have h := rk_nnif hc1 h
    refine lv_bipush (v := (-2)) hx hb dX9_store_7 (by decide) ?_
    exact hret ((-2 : Int32), f_this_archive_used, f_this_archive_product, c_this_archive_families, c_this_archive_places, r_1.2.1, c_this_desk_ranks, r_1.2.2) _ _ _ _ h dX9_store_9 (hP.sub [0, 1, 2, 4, 3, 5] rfl) (hD.sub [0, 1, 2, 4, 3, 5] (by decide) rfl) hS
set_option maxHeartbeats 4000000 in
set_option maxRecDepth 100000 in
theorem mtX9_fetch (l : Launch) (D : va_G) (cI cJ cO : ClassId) (LP : List Nat) (FP : Nat → Fm) (sz : Nat) (a_this : Nat) (a_this_buffer : Nat) (a_this_draft : Nat) (a_this_desk : Nat) (a_this_archive : Nat) (a_this_present : Nat) (c_this_buffer : Nat → Int32) (c_this_draft : Nat → Int32) (a_this_archive_families : Nat) (a_this_archive_places : Nat) (f_this_archive_used : Int32) (f_this_archive_product : Int64) (a_this_desk_binomials : Nat) (a_this_desk_partitionCounts : Nat) (a_this_desk_treeCounts : Nat) (a_this_desk_sizes : Nat) (a_this_desk_starts : Nat) (a_this_desk_ranks : Nat) (a_this_desk_letters : Nat) (c_this_desk_letters : Nat → Int32) (c_this_desk_ranks : Nat → Int64) (c_this_desk_sizes : Nat → Int32) (c_this_archive_families : Nat → Option Nat) (c_this_archive_places : Nat → Int64) (c_this_desk_binomials : Nat → Int64) (c_this_desk_partitionCounts : Nat → Int32) (c_this_desk_treeCounts : Nat → Int64) (v_p1 : Int32) (r0 : Int32 × Nat × (Nat → Int32) × (Nat → Int32) × (Nat → Int64) × (Nat → Int32) × (Nat → Int32)) (h : fX9_fetch LP FP a_this_present c_this_buffer c_this_draft f_this_archive_used c_this_desk_letters c_this_desk_ranks c_this_desk_sizes c_this_archive_families c_this_archive_places c_this_desk_binomials c_this_desk_partitionCounts c_this_desk_treeCounts v_p1 = some r0) : Met l yX9_fetch (rk_w yX9_fetch cX9_fetch 3 (some .int)) rmX9_fetch (va_Pc [.ref a_this, .int v_p1] (rk_B D (rk_TY cI cJ cO) [(a_this, .inr (8, [.ref a_this_buffer, .ref a_this_draft, .ref a_this_desk, .ref a_this_archive, .ref a_this_present])), (a_this_buffer, .inl (cI, 60, .inl c_this_buffer)), (a_this_desk_letters, .inl (cI, 4, .inl c_this_desk_letters)), (a_this_desk_ranks, .inl (cJ, 60, .inr (.inl c_this_desk_ranks))), (a_this_desk_sizes, .inl (cI, 60, .inl c_this_desk_sizes)), (a_this_draft, .inl (cI, 60, .inl c_this_draft))] [(a_this_archive, .inr (0, [.ref a_this_archive_families, .ref a_this_archive_places, .int f_this_archive_used, .long f_this_archive_product])), (a_this_archive_families, .inl (cO, 10, .inr (.inr (.inr (.inr c_this_archive_families))))), (a_this_archive_places, .inl (cJ, 10, .inr (.inl c_this_archive_places))), (a_this_desk, .inr (2, [.ref a_this_desk_binomials, .ref a_this_desk_partitionCounts, .ref a_this_desk_treeCounts, .ref a_this_desk_sizes, .ref a_this_desk_starts, .ref a_this_desk_ranks, .ref a_this_desk_letters])), (a_this_desk_binomials, .inl (cJ, 1891, .inr (.inl c_this_desk_binomials))), (a_this_desk_partitionCounts, .inl (cI, 1891, .inl c_this_desk_partitionCounts)), (a_this_desk_treeCounts, .inl (cJ, 31, .inr (.inl c_this_desk_treeCounts)))] (rk_pl LP FP) sz)) (rk_Qi r0.1 D [(a_this, .inr (8, [.ref a_this_buffer, .ref a_this_draft, .ref a_this_desk, .ref a_this_archive, .ref r0.2.1])), (a_this_buffer, .inl (cI, 60, .inl r0.2.2.1)), (a_this_desk_letters, .inl (cI, 4, .inl r0.2.2.2.1)), (a_this_desk_ranks, .inl (cJ, 60, .inr (.inl r0.2.2.2.2.1))), (a_this_desk_sizes, .inl (cI, 60, .inl r0.2.2.2.2.2.1)), (a_this_draft, .inl (cI, 60, .inl r0.2.2.2.2.2.2))] [(a_this, .inr (8, [.ref a_this_buffer, .ref a_this_draft, .ref a_this_desk, .ref a_this_archive, .ref a_this_present])), (a_this_buffer, .inl (cI, 60, .inl c_this_buffer)), (a_this_desk_letters, .inl (cI, 4, .inl c_this_desk_letters)), (a_this_desk_ranks, .inl (cJ, 60, .inr (.inl c_this_desk_ranks))), (a_this_desk_sizes, .inl (cI, 60, .inl c_this_desk_sizes)), (a_this_draft, .inl (cI, 60, .inl c_this_draft))] sz) 0 0 (va_A [(a_this, .inr (8, [.ref a_this_buffer, .ref a_this_draft, .ref a_this_desk, .ref a_this_archive, .ref a_this_present])), (a_this_buffer, .inl (cI, 60, .inl c_this_buffer)), (a_this_desk_letters, .inl (cI, 4, .inl c_this_desk_letters)), (a_this_desk_ranks, .inl (cJ, 60, .inr (.inl c_this_desk_ranks))), (a_this_desk_sizes, .inl (cI, 60, .inl c_this_desk_sizes)), (a_this_draft, .inl (cI, 60, .inl c_this_draft))] sz) := by
  refine rk_meti h (fun x : Int32 × Nat × (Nat → Int32) × (Nat → Int32) × (Nat → Int64) × (Nat → Int32) × (Nat → Int32) => x.1) (fun x => [(a_this, .inr (8, [.ref a_this_buffer, .ref a_this_draft, .ref a_this_desk, .ref a_this_archive, .ref x.2.1])), (a_this_buffer, .inl (cI, 60, .inl x.2.2.1)), (a_this_desk_letters, .inl (cI, 4, .inl x.2.2.2.1)), (a_this_desk_ranks, .inl (cJ, 60, .inr (.inl x.2.2.2.2.1))), (a_this_desk_sizes, .inl (cI, 60, .inl x.2.2.2.2.2.1)), (a_this_draft, .inl (cI, 60, .inl x.2.2.2.2.2.2))]) (by decide) (Nat.le_of_ble_eq_true rfl) ?_
  intro p e s m args below meth c A ls Q hret hname hF hP hD hA hV hR0 hn hPL hnl hl h hS
  have hx := hF.1
  have hb := hF.2.1
  have hml := hF.2.2.1
  have hown : s.vm.findClass RX9 = some m.cls := hF.2.2.2.1
  have htc := hF.2.2.2.2
  have hP : va_P D vwCl [(a_this, .inr (8, [.ref a_this_buffer, .ref a_this_draft, .ref a_this_desk, .ref a_this_archive, .ref a_this_present])), (a_this_buffer, .inl (cI, 60, .inl c_this_buffer)), (a_this_desk_letters, .inl (cI, 4, .inl c_this_desk_letters)), (a_this_desk_ranks, .inl (cJ, 60, .inr (.inl c_this_desk_ranks))), (a_this_desk_sizes, .inl (cI, 60, .inl c_this_desk_sizes)), (a_this_draft, .inl (cI, 60, .inl c_this_draft))] s.heap := hP
  have hD : va_D A [(a_this, .inr (8, [.ref a_this_buffer, .ref a_this_draft, .ref a_this_desk, .ref a_this_archive, .ref a_this_present])), (a_this_buffer, .inl (cI, 60, .inl c_this_buffer)), (a_this_desk_letters, .inl (cI, 4, .inl c_this_desk_letters)), (a_this_desk_ranks, .inl (cJ, 60, .inr (.inl c_this_desk_ranks))), (a_this_desk_sizes, .inl (cI, 60, .inl c_this_desk_sizes)), (a_this_draft, .inl (cI, 60, .inl c_this_draft))] := hD
  have hR0 : va_P D vwCl [(a_this_archive, .inr (0, [.ref a_this_archive_families, .ref a_this_archive_places, .int f_this_archive_used, .long f_this_archive_product])), (a_this_archive_families, .inl (cO, 10, .inr (.inr (.inr (.inr c_this_archive_families))))), (a_this_archive_places, .inl (cJ, 10, .inr (.inl c_this_archive_places))), (a_this_desk, .inr (2, [.ref a_this_desk_binomials, .ref a_this_desk_partitionCounts, .ref a_this_desk_treeCounts, .ref a_this_desk_sizes, .ref a_this_desk_starts, .ref a_this_desk_ranks, .ref a_this_desk_letters])), (a_this_desk_binomials, .inl (cJ, 1891, .inr (.inl c_this_desk_binomials))), (a_this_desk_partitionCounts, .inl (cI, 1891, .inl c_this_desk_partitionCounts)), (a_this_desk_treeCounts, .inl (cJ, 31, .inr (.inl c_this_desk_treeCounts)))] s.heap := hR0
  have hR := hR0
  have hl : lv_has ls 3 [(0, .ref a_this), (1, .int v_p1)] := hl
  unfold fX9_fetch at h
  refine lv_aload_n hx hb dX9_fetch_0 rfl (lv_at hl 0 rfl) ?_
  refine va_get (D := D) (ci := 8) (v := .ref a_this_archive) (C := RX9) (T := TX9) (N := 5) hx hb htc inX9 hown hV.1 hP 0 rfl rfl 3 (by decide) (htc _ w_1_155) (fun _ h9 => h9) rfl dX9_fetch_1 ?_
  refine lv_iload_n hx hb dX9_fetch_4 rfl (lv_at hl 1 rfl) ?_
  obtain ⟨r_5, hc_5, h⟩ := rk_bd h
  refine rk_q (wr := [(a_this, .inr (8, [.ref a_this_buffer, .ref a_this_draft, .ref a_this_desk, .ref a_this_archive, .ref a_this_present])), (a_this_buffer, .inl (cI, 60, .inl c_this_buffer)), (a_this_desk_letters, .inl (cI, 4, .inl c_this_desk_letters)), (a_this_desk_ranks, .inl (cJ, 60, .inr (.inl c_this_desk_ranks))), (a_this_desk_sizes, .inl (cI, 60, .inl c_this_desk_sizes)), (a_this_draft, .inl (cI, 60, .inl c_this_draft))]) (va_runVN (C := RX0) (As := [.int v_p1]) (rest := []) hF (mtX0_familyAt l D cI cJ cO (rk_pl LP FP) _ a_this_archive a_this_archive_families a_this_archive_places f_this_archive_used f_this_archive_product c_this_archive_families v_p1 r_5 hc_5) ⟨va_cnB 1 htc (rk_gw w_3_156) rfl rfl rfl (hV.2.1 _ nw_3_153) (htc _ w_1_4) (by decide +kernel) ⟨(Nat.le_of_ble_eq_true rfl), (Nat.le_of_ble_eq_true rfl)⟩, htc _ w_3_155, htc _ ws_24⟩ (rk_preV (va_recv hV.1 hR (ci := 0) (q0 := 0) rfl rfl) (rk_preS hP hD hS hR hn hPL hnl hV [] [(false, 0), (false, 1)] rfl (by decide) rfl (by decide))) rfl rfl hl.1 rfl (lv_room (Nat.le_of_ble_eq_true rfl)) dX9_fetch_5 ⟨(Nat.le_of_ble_eq_true rfl), (Nat.le_of_ble_eq_true rfl)⟩) hP hD hS hA hR0 hn [] [0, 1, 2, 3, 4, 5] rfl rfl (by decide) (by decide) (fun H locs hP hD hS hR => ?_)
  have hP : va_P D vwCl [(a_this, .inr (8, [.ref a_this_buffer, .ref a_this_draft, .ref a_this_desk, .ref a_this_archive, .ref a_this_present])), (a_this_buffer, .inl (cI, 60, .inl c_this_buffer)), (a_this_desk_letters, .inl (cI, 4, .inl c_this_desk_letters)), (a_this_desk_ranks, .inl (cJ, 60, .inr (.inl c_this_desk_ranks))), (a_this_desk_sizes, .inl (cI, 60, .inl c_this_desk_sizes)), (a_this_draft, .inl (cI, 60, .inl c_this_draft))] H := hP
  have hD : va_D A [(a_this, .inr (8, [.ref a_this_buffer, .ref a_this_draft, .ref a_this_desk, .ref a_this_archive, .ref a_this_present])), (a_this_buffer, .inl (cI, 60, .inl c_this_buffer)), (a_this_desk_letters, .inl (cI, 4, .inl c_this_desk_letters)), (a_this_desk_ranks, .inl (cJ, 60, .inr (.inl c_this_desk_ranks))), (a_this_desk_sizes, .inl (cI, 60, .inl c_this_desk_sizes)), (a_this_draft, .inl (cI, 60, .inl c_this_draft))] := hD
  rcases r_5 with _ | a_5
  · have h := rk_en h
    refine lv_astore_nN (lv' := [(2, .null), (0, .ref a_this), (1, .int v_p1)]) hx hb dX9_fetch_8 rfl hl (by decide) rfl (fun ls hl => ?_)
    refine lv_aload_nN hx hb dX9_fetch_9 rfl (lv_at hl 0 rfl) ?_
    refine lv_ifnonnullN hx hb dX9_fetch_10 ?_
    refine lv_bipush (v := (-5)) hx hb dX9_fetch_13 (by decide) ?_
    exact hret ((-5 : Int32), a_this_present, c_this_buffer, c_this_desk_letters, c_this_desk_ranks, c_this_desk_sizes, c_this_draft) _ _ _ _ h dX9_fetch_15 hP hD hS
  have h := rk_es h
  obtain ⟨hm_5, h⟩ := rk_gp h
  obtain ⟨hR0, hn⟩ := rk_imp hm_5 hPL hnl hR0 hn
  have hR := rk_keep hR0 hn hS
  refine lv_astore_n (lv' := [(2, .ref a_5), (0, .ref a_this), (1, .int v_p1)]) hx hb dX9_fetch_8 rfl hl (by decide) rfl (fun ls hl => ?_)
  refine lv_aload_n hx hb dX9_fetch_9 rfl (lv_at hl 0 rfl) ?_
  refine lv_ifnonnull (tgt := 16) hx hb dX9_fetch_10 (by decide) ?_
  refine lv_aload_n hx hb dX9_fetch_16 rfl (lv_at hl 1 rfl) ?_
  refine lv_aload_n hx hb dX9_fetch_17 rfl (lv_at hl 0 rfl) ?_
  refine va_put (D := D) (ci := 8) (v := .ref a_5) (ty := (.object "EnumerativeCoder$Family")) (C := RX9) (T := TX9) (N := 5) hx hb htc inX9 tyX9 tyX9_ok nmX9 hown hV.1 hP hD hS 0 rfl rfl 4 (by decide) (htc _ w_1_156) (fun _ h9 => h9) rfl (by decide +kernel) rfl rfl (Nat.le_of_ble_eq_true rfl) dX9_fetch_18 (fun H locs hP hD hS => ?_)
  have hP : va_P D vwCl [(a_this, .inr (8, [.ref a_this_buffer, .ref a_this_draft, .ref a_this_desk, .ref a_this_archive, .ref a_5])), (a_this_buffer, .inl (cI, 60, .inl c_this_buffer)), (a_this_desk_letters, .inl (cI, 4, .inl c_this_desk_letters)), (a_this_desk_ranks, .inl (cJ, 60, .inr (.inl c_this_desk_ranks))), (a_this_desk_sizes, .inl (cI, 60, .inl c_this_desk_sizes)), (a_this_draft, .inl (cI, 60, .inl c_this_draft))] H := hP
  have hD : va_D A [(a_this, .inr (8, [.ref a_this_buffer, .ref a_this_draft, .ref a_this_desk, .ref a_this_archive, .ref a_5])), (a_this_buffer, .inl (cI, 60, .inl c_this_buffer)), (a_this_desk_letters, .inl (cI, 4, .inl c_this_desk_letters)), (a_this_desk_ranks, .inl (cJ, 60, .inr (.inl c_this_desk_ranks))), (a_this_desk_sizes, .inl (cI, 60, .inl c_this_desk_sizes)), (a_this_draft, .inl (cI, 60, .inl c_this_draft))] := hD
  have hR := rk_keep hR0 hn hS
  refine lv_aload_n hx hb dX9_fetch_21 rfl (lv_at hl 1 rfl) ?_
  refine lv_aload_n hx hb dX9_fetch_22 rfl (lv_at hl 1 rfl) ?_
  refine va_get (D := D) (ci := 8) (v := .ref a_this_archive) (C := RX9) (T := TX9) (N := 5) hx hb htc inX9 hown hV.1 hP 0 rfl rfl 3 (by decide) (htc _ w_1_155) (fun _ h9 => h9) rfl dX9_fetch_23 ?_
  refine lv_iload_n hx hb dX9_fetch_26 rfl (lv_at hl 2 rfl) ?_
  obtain ⟨r_27, hc_27, h⟩ := rk_bd h
  refine rk_l (wr := [(a_this, .inr (8, [.ref a_this_buffer, .ref a_this_draft, .ref a_this_desk, .ref a_this_archive, .ref a_5])), (a_this_buffer, .inl (cI, 60, .inl c_this_buffer)), (a_this_desk_letters, .inl (cI, 4, .inl c_this_desk_letters)), (a_this_desk_ranks, .inl (cJ, 60, .inr (.inl c_this_desk_ranks))), (a_this_desk_sizes, .inl (cI, 60, .inl c_this_desk_sizes)), (a_this_draft, .inl (cI, 60, .inl c_this_draft))]) (va_runVN (C := RX0) (As := [.int v_p1]) (rest := [.ref a_this]) hF (mtX0_placeAt l D cI cJ cO (rk_pl LP FP) _ a_this_archive a_this_archive_families a_this_archive_places f_this_archive_used f_this_archive_product c_this_archive_places v_p1 r_27 hc_27) ⟨va_cnB 1 htc (rk_gw w_3_160) rfl rfl rfl (hV.2.1 _ nw_3_157) (htc _ w_1_4) (by decide +kernel) ⟨(Nat.le_of_ble_eq_true rfl), (Nat.le_of_ble_eq_true rfl)⟩, htc _ w_3_159, htc _ ws_25⟩ (rk_preV (va_recv hV.1 hR (ci := 0) (q0 := 1) rfl rfl) (rk_preS hP hD hS hR hn hPL hnl hV [] [(false, 1), (false, 3)] rfl (by decide) rfl (by decide))) rfl rfl hl.1 rfl (lv_room (Nat.le_of_ble_eq_true rfl)) dX9_fetch_27 ⟨(Nat.le_of_ble_eq_true rfl), (Nat.le_of_ble_eq_true rfl)⟩) hP hD hS hA hR0 hn [] [0, 1, 2, 3, 4, 5] rfl rfl (by decide) (by decide) (fun H locs hP hD hS hR => ?_)
  have hP : va_P D vwCl [(a_this, .inr (8, [.ref a_this_buffer, .ref a_this_draft, .ref a_this_desk, .ref a_this_archive, .ref a_5])), (a_this_buffer, .inl (cI, 60, .inl c_this_buffer)), (a_this_desk_letters, .inl (cI, 4, .inl c_this_desk_letters)), (a_this_desk_ranks, .inl (cJ, 60, .inr (.inl c_this_desk_ranks))), (a_this_desk_sizes, .inl (cI, 60, .inl c_this_desk_sizes)), (a_this_draft, .inl (cI, 60, .inl c_this_draft))] H := hP
  have hD : va_D A [(a_this, .inr (8, [.ref a_this_buffer, .ref a_this_draft, .ref a_this_desk, .ref a_this_archive, .ref a_5])), (a_this_buffer, .inl (cI, 60, .inl c_this_buffer)), (a_this_desk_letters, .inl (cI, 4, .inl c_this_desk_letters)), (a_this_desk_ranks, .inl (cJ, 60, .inr (.inl c_this_desk_ranks))), (a_this_desk_sizes, .inl (cI, 60, .inl c_this_desk_sizes)), (a_this_draft, .inl (cI, 60, .inl c_this_draft))] := hD
  obtain ⟨r_30, hc_30, h⟩ := rk_bd h
  refine rk_i (wr := [(a_this, .inr (8, [.ref a_this_buffer, .ref a_this_draft, .ref a_this_desk, .ref a_this_archive, .ref a_5]))]) (va_runV (C := RX9) (As := [.long r_27]) (rest := []) hF (mtX9_layDown l D cI cJ cO (rk_pl LP FP) _ a_this a_this_buffer a_this_draft a_this_desk a_this_archive a_5 c_this_buffer c_this_draft a_this_desk_binomials a_this_desk_partitionCounts a_this_desk_treeCounts a_this_desk_sizes a_this_desk_starts a_this_desk_ranks a_this_desk_letters (FP a_5) c_this_desk_letters c_this_desk_ranks c_this_desk_sizes c_this_desk_binomials c_this_desk_partitionCounts c_this_desk_treeCounts r_27 r_30 hc_30) (cwV 1 htc (rk_gV w_3_56 w_3_58 ws_20 w_1_1 w_3_59) rfl rfl rfl (by decide +kernel) ⟨(Nat.le_of_ble_eq_true rfl), (Nat.le_of_ble_eq_true rfl)⟩) (rk_preV (va_recv hV.1 hP (ci := 8) (q0 := 0) rfl rfl) (rk_preS hP hD hS hR hn hPL hnl hV [1, 2, 3, 4, 5] [(true, 0), (false, 4), (false, 5), (false, 6), (false, 7), (false, 0)] rfl (by decide) rfl (by decide))) rfl rfl hl.1 rfl (lv_room (Nat.le_of_ble_eq_true rfl)) dX9_fetch_30 ⟨(Nat.le_of_ble_eq_true rfl), (Nat.le_of_ble_eq_true rfl)⟩) hP hD hS hA hR0 hn [1, 2, 3, 4, 5] [0] rfl rfl (by decide) (by decide) (fun H locs hP hD hS hR => ?_)
  have hP : va_P D vwCl [(a_this, .inr (8, [.ref a_this_buffer, .ref a_this_draft, .ref a_this_desk, .ref a_this_archive, .ref a_5])), (a_this_buffer, .inl (cI, 60, .inl r_30.2.1)), (a_this_desk_letters, .inl (cI, 4, .inl r_30.2.2.1)), (a_this_desk_ranks, .inl (cJ, 60, .inr (.inl r_30.2.2.2.1))), (a_this_desk_sizes, .inl (cI, 60, .inl r_30.2.2.2.2.1)), (a_this_draft, .inl (cI, 60, .inl r_30.2.2.2.2.2))] H := hP
  have hD : va_D A [(a_this, .inr (8, [.ref a_this_buffer, .ref a_this_draft, .ref a_this_desk, .ref a_this_archive, .ref a_5])), (a_this_buffer, .inl (cI, 60, .inl r_30.2.1)), (a_this_desk_letters, .inl (cI, 4, .inl r_30.2.2.1)), (a_this_desk_ranks, .inl (cJ, 60, .inr (.inl r_30.2.2.2.1))), (a_this_desk_sizes, .inl (cI, 60, .inl r_30.2.2.2.2.1)), (a_this_draft, .inl (cI, 60, .inl r_30.2.2.2.2.2))] := hD
  refine lv_pop hx hb dX9_fetch_33 rfl ?_
  refine lv_aload_n hx hb dX9_fetch_34 rfl (lv_at hl 0 rfl) ?_
  refine rk_fget_number hx hb htc hown hV.1 hR 0 rfl (htc _ w_1_120) dX9_fetch_35 ?_
  exact hret ((FP a_5).2.1, a_5, r_30.2.1, r_30.2.2.1, r_30.2.2.2.1, r_30.2.2.2.2.1, r_30.2.2.2.2.2) _ _ _ _ h dX9_fetch_38 hP hD hS
set_option maxHeartbeats 4000000 in
set_option maxRecDepth 100000 in
theorem mtX9_clear (l : Launch) (D : va_G) (cI cJ cO : ClassId) (PL : va_W) (sz : Nat) (a_this : Nat) (a_this_buffer : Nat) (a_this_draft : Nat) (a_this_desk : Nat) (a_this_archive : Nat) (a_this_present : Nat) (a_this_archive_families : Nat) (a_this_archive_places : Nat) (f_this_archive_used : Int32) (f_this_archive_product : Int64) (r0 : Int32 × Int32 × Int64) (h : fX9_clear f_this_archive_used = some r0) : Met l yX9_clear (rk_w yX9_clear cX9_clear 1 (some .int)) rmX9_clear (va_Pc [.ref a_this] (rk_B D (rk_TY cI cJ cO) [(a_this_archive, .inr (0, [.ref a_this_archive_families, .ref a_this_archive_places, .int f_this_archive_used, .long f_this_archive_product]))] [(a_this, .inr (8, [.ref a_this_buffer, .ref a_this_draft, .ref a_this_desk, .ref a_this_archive, .ref a_this_present]))] PL sz)) (rk_Qi r0.1 D [(a_this_archive, .inr (0, [.ref a_this_archive_families, .ref a_this_archive_places, .int r0.2.1, .long r0.2.2]))] [(a_this_archive, .inr (0, [.ref a_this_archive_families, .ref a_this_archive_places, .int f_this_archive_used, .long f_this_archive_product]))] sz) 0 0 (va_A [(a_this_archive, .inr (0, [.ref a_this_archive_families, .ref a_this_archive_places, .int f_this_archive_used, .long f_this_archive_product]))] sz) := by
  refine rk_meti h (fun x : Int32 × Int32 × Int64 => x.1) (fun x => [(a_this_archive, .inr (0, [.ref a_this_archive_families, .ref a_this_archive_places, .int x.2.1, .long x.2.2]))]) (by decide) (Nat.le_of_ble_eq_true rfl) ?_
  intro p e s m args below meth c A ls Q hret hname hF hP hD hA hV hR0 hn hPL hnl hl h hS
  have hx := hF.1
  have hb := hF.2.1
  have hml := hF.2.2.1
  have hown : s.vm.findClass RX9 = some m.cls := hF.2.2.2.1
  have htc := hF.2.2.2.2
  have hP : va_P D vwCl [(a_this_archive, .inr (0, [.ref a_this_archive_families, .ref a_this_archive_places, .int f_this_archive_used, .long f_this_archive_product]))] s.heap := hP
  have hD : va_D A [(a_this_archive, .inr (0, [.ref a_this_archive_families, .ref a_this_archive_places, .int f_this_archive_used, .long f_this_archive_product]))] := hD
  have hR0 : va_P D vwCl [(a_this, .inr (8, [.ref a_this_buffer, .ref a_this_draft, .ref a_this_desk, .ref a_this_archive, .ref a_this_present]))] s.heap := hR0
  have hR := hR0
  have hl : lv_has ls 1 [(0, .ref a_this)] := hl
  unfold fX9_clear at h
  refine lv_aload_n hx hb dX9_clear_0 rfl (lv_at hl 0 rfl) ?_
  refine va_get (D := D) (ci := 8) (v := .ref a_this_archive) (C := RX9) (T := TX9) (N := 5) hx hb htc inX9 hown hV.1 hR 0 rfl rfl 3 (by decide) (htc _ w_1_155) (fun _ h9 => h9) rfl dX9_clear_1 ?_
  obtain ⟨r_4, hc_4, h⟩ := rk_bd h
  refine rk_i (wr := []) (va_runVN (C := RX0) (As := []) (rest := []) hF (mtX0_dropAll l D cI cJ cO PL _ a_this_archive a_this_archive_families a_this_archive_places f_this_archive_used f_this_archive_product r_4 hc_4) ⟨va_cnB 0 htc (rk_gw w_3_169) rfl rfl rfl (hV.2.1 _ nw_3_166) (htc _ w_1_4) (by decide +kernel) ⟨(Nat.le_of_ble_eq_true rfl), (Nat.le_of_ble_eq_true rfl)⟩, htc _ w_3_168, htc _ ws_26⟩ (rk_preV (va_recv hV.1 hP (ci := 0) (q0 := 0) rfl rfl) (rk_preS hP hD hS hR hn hPL hnl hV [0] [] rfl (by decide) rfl (by decide))) rfl rfl hl.1 rfl (lv_room (Nat.le_of_ble_eq_true rfl)) dX9_clear_4 ⟨(Nat.le_of_ble_eq_true rfl), (Nat.le_of_ble_eq_true rfl)⟩) hP hD hS hA hR0 hn [0] [] rfl rfl (by decide) (by decide) (fun H locs hP hD hS hR => ?_)
  have hP : va_P D vwCl [(a_this_archive, .inr (0, [.ref a_this_archive_families, .ref a_this_archive_places, .int r_4.2.1, .long r_4.2.2]))] H := hP
  have hD : va_D A [(a_this_archive, .inr (0, [.ref a_this_archive_families, .ref a_this_archive_places, .int r_4.2.1, .long r_4.2.2]))] := hD
  exact hret (r_4.1, r_4.2.1, r_4.2.2) _ _ _ _ h dX9_clear_7 hP hD hS
set_option maxHeartbeats 4000000 in
set_option maxRecDepth 100000 in
theorem mtX9_entries (l : Launch) (D : va_G) (cI cJ cO : ClassId) (PL : va_W) (sz : Nat) (a_this : Nat) (a_this_buffer : Nat) (a_this_draft : Nat) (a_this_desk : Nat) (a_this_archive : Nat) (a_this_present : Nat) (a_this_archive_families : Nat) (a_this_archive_places : Nat) (f_this_archive_used : Int32) (f_this_archive_product : Int64) (r0 : Int32) (h : fX9_entries f_this_archive_used = some r0) : Met l yX9_entries (rk_w yX9_entries cX9_entries 1 (some .int)) rmX9_entries (va_Pc [.ref a_this] (rk_B D (rk_TY cI cJ cO) [] [(a_this, .inr (8, [.ref a_this_buffer, .ref a_this_draft, .ref a_this_desk, .ref a_this_archive, .ref a_this_present])), (a_this_archive, .inr (0, [.ref a_this_archive_families, .ref a_this_archive_places, .int f_this_archive_used, .long f_this_archive_product]))] PL sz)) (rk_Qi r0 D [] [] sz) 0 0 (va_A [] sz) := by
  refine rk_meti h (fun x : Int32 => x) (fun x => []) (by decide) (Nat.le_of_ble_eq_true rfl) ?_
  intro p e s m args below meth c A ls Q hret hname hF hP hD hA hV hR0 hn hPL hnl hl h hS
  have hx := hF.1
  have hb := hF.2.1
  have hml := hF.2.2.1
  have hown : s.vm.findClass RX9 = some m.cls := hF.2.2.2.1
  have htc := hF.2.2.2.2
  have hP : va_P D vwCl [] s.heap := hP
  have hD : va_D A [] := hD
  have hR0 : va_P D vwCl [(a_this, .inr (8, [.ref a_this_buffer, .ref a_this_draft, .ref a_this_desk, .ref a_this_archive, .ref a_this_present])), (a_this_archive, .inr (0, [.ref a_this_archive_families, .ref a_this_archive_places, .int f_this_archive_used, .long f_this_archive_product]))] s.heap := hR0
  have hR := hR0
  have hl : lv_has ls 1 [(0, .ref a_this)] := hl
  unfold fX9_entries at h
  refine lv_aload_n hx hb dX9_entries_0 rfl (lv_at hl 0 rfl) ?_
  refine va_get (D := D) (ci := 8) (v := .ref a_this_archive) (C := RX9) (T := TX9) (N := 5) hx hb htc inX9 hown hV.1 hR 0 rfl rfl 3 (by decide) (htc _ w_1_155) (fun _ h9 => h9) rfl dX9_entries_1 ?_
  refine va_getN (D := D) (ci := 0) (v := .int f_this_archive_used) (C := RX0) (T := TX0) (N := 4) hx hb htc inX0 hown hV.1 hR 1 rfl rfl 2 (by decide) (va_Nw.use rfl (hV.2.1 _ nw_1_96)) (fun _ h9 => h9) rfl dX9_entries_4 ?_
  exact hret f_this_archive_used _ _ _ _ h dX9_entries_7 hP hD hS
set_option maxHeartbeats 4000000 in
set_option maxRecDepth 100000 in
theorem mtX9_total (l : Launch) (D : va_G) (cI cJ cO : ClassId) (PL : va_W) (sz : Nat) (a_this : Nat) (a_this_buffer : Nat) (a_this_draft : Nat) (a_this_desk : Nat) (a_this_archive : Nat) (a_this_present : Nat) (a_this_archive_families : Nat) (a_this_archive_places : Nat) (f_this_archive_used : Int32) (f_this_archive_product : Int64) (r0 : Int64) (h : fX9_total f_this_archive_product = some r0) : Met l yX9_total (rk_w yX9_total cX9_total 1 (some .long)) rmX9_total (va_Pc [.ref a_this] (rk_B D (rk_TY cI cJ cO) [] [(a_this, .inr (8, [.ref a_this_buffer, .ref a_this_draft, .ref a_this_desk, .ref a_this_archive, .ref a_this_present])), (a_this_archive, .inr (0, [.ref a_this_archive_families, .ref a_this_archive_places, .int f_this_archive_used, .long f_this_archive_product]))] PL sz)) (rk_Ql r0 D [] [] sz) 0 0 (va_A [] sz) := by
  refine rk_metl h (fun x : Int64 => x) (fun x => []) (by decide) (Nat.le_of_ble_eq_true rfl) ?_
  intro p e s m args below meth c A ls Q hret hname hF hP hD hA hV hR0 hn hPL hnl hl h hS
  have hx := hF.1
  have hb := hF.2.1
  have hml := hF.2.2.1
  have hown : s.vm.findClass RX9 = some m.cls := hF.2.2.2.1
  have htc := hF.2.2.2.2
  have hP : va_P D vwCl [] s.heap := hP
  have hD : va_D A [] := hD
  have hR0 : va_P D vwCl [(a_this, .inr (8, [.ref a_this_buffer, .ref a_this_draft, .ref a_this_desk, .ref a_this_archive, .ref a_this_present])), (a_this_archive, .inr (0, [.ref a_this_archive_families, .ref a_this_archive_places, .int f_this_archive_used, .long f_this_archive_product]))] s.heap := hR0
  have hR := hR0
  have hl : lv_has ls 1 [(0, .ref a_this)] := hl
  unfold fX9_total at h
  refine lv_aload_n hx hb dX9_total_0 rfl (lv_at hl 0 rfl) ?_
  refine va_get (D := D) (ci := 8) (v := .ref a_this_archive) (C := RX9) (T := TX9) (N := 5) hx hb htc inX9 hown hV.1 hR 0 rfl rfl 3 (by decide) (htc _ w_1_155) (fun _ h9 => h9) rfl dX9_total_1 ?_
  refine va_getN (D := D) (ci := 0) (v := .long f_this_archive_product) (C := RX0) (T := TX0) (N := 4) hx hb htc inX0 hown hV.1 hR 1 rfl rfl 3 (by decide) (va_Nw.use rfl (hV.2.1 _ nw_1_98)) (fun _ h9 => h9) rfl dX9_total_4 ?_
  exact hret f_this_archive_product _ _ _ _ h dX9_total_7 hP hD hS
set_option maxHeartbeats 4000000 in
set_option maxRecDepth 100000 in
theorem mtX9_code (l : Launch) (D : va_G) (cI cJ cO : ClassId) (LP : List Nat) (FP : Nat → Fm) (sz : Nat) (a_this : Nat) (a_this_buffer : Nat) (a_this_draft : Nat) (a_this_desk : Nat) (a_this_archive : Nat) (a_this_present : Nat) (a_this_archive_families : Nat) (a_this_archive_places : Nat) (f_this_archive_used : Int32) (f_this_archive_product : Int64) (c_this_archive_families : Nat → Option Nat) (c_this_archive_places : Nat → Int64) (r0 : Int64) (h : fX9_code LP FP f_this_archive_used c_this_archive_families c_this_archive_places = some r0) : Met l yX9_code (rk_w yX9_code cX9_code 1 (some .long)) rmX9_code (va_Pc [.ref a_this] (rk_B D (rk_TY cI cJ cO) [] [(a_this, .inr (8, [.ref a_this_buffer, .ref a_this_draft, .ref a_this_desk, .ref a_this_archive, .ref a_this_present])), (a_this_archive, .inr (0, [.ref a_this_archive_families, .ref a_this_archive_places, .int f_this_archive_used, .long f_this_archive_product])), (a_this_archive_families, .inl (cO, 10, .inr (.inr (.inr (.inr c_this_archive_families))))), (a_this_archive_places, .inl (cJ, 10, .inr (.inl c_this_archive_places)))] (rk_pl LP FP) sz)) (rk_Ql r0 D [] [] sz) 0 0 (va_A [] sz) := by
  refine rk_metl h (fun x : Int64 => x) (fun x => []) (by decide) (Nat.le_of_ble_eq_true rfl) ?_
  intro p e s m args below meth c A ls Q hret hname hF hP hD hA hV hR0 hn hPL hnl hl h hS
  have hx := hF.1
  have hb := hF.2.1
  have hml := hF.2.2.1
  have hown : s.vm.findClass RX9 = some m.cls := hF.2.2.2.1
  have htc := hF.2.2.2.2
  have hP : va_P D vwCl [] s.heap := hP
  have hD : va_D A [] := hD
  have hR0 : va_P D vwCl [(a_this, .inr (8, [.ref a_this_buffer, .ref a_this_draft, .ref a_this_desk, .ref a_this_archive, .ref a_this_present])), (a_this_archive, .inr (0, [.ref a_this_archive_families, .ref a_this_archive_places, .int f_this_archive_used, .long f_this_archive_product])), (a_this_archive_families, .inl (cO, 10, .inr (.inr (.inr (.inr c_this_archive_families))))), (a_this_archive_places, .inl (cJ, 10, .inr (.inl c_this_archive_places)))] s.heap := hR0
  have hR := hR0
  have hl : lv_has ls 1 [(0, .ref a_this)] := hl
  unfold fX9_code at h
  refine lv_aload_n hx hb dX9_code_0 rfl (lv_at hl 0 rfl) ?_
  refine va_get (D := D) (ci := 8) (v := .ref a_this_archive) (C := RX9) (T := TX9) (N := 5) hx hb htc inX9 hown hV.1 hR 0 rfl rfl 3 (by decide) (htc _ w_1_155) (fun _ h9 => h9) rfl dX9_code_1 ?_
  obtain ⟨r_4, hc_4, h⟩ := rk_bd h
  refine rk_l (wr := []) (va_runVN (C := RX0) (As := []) (rest := []) hF (mtX0_packed l D cI cJ cO LP FP _ a_this_archive a_this_archive_families a_this_archive_places f_this_archive_used f_this_archive_product c_this_archive_families c_this_archive_places r_4 hc_4) ⟨va_cnB 0 htc (rk_gw w_3_185) rfl rfl rfl (hV.2.1 _ nw_3_182) (htc _ w_1_4) (by decide +kernel) ⟨(Nat.le_of_ble_eq_true rfl), (Nat.le_of_ble_eq_true rfl)⟩, htc _ w_3_184, htc _ ws_27⟩ (rk_preV (va_recv hV.1 hR (ci := 0) (q0 := 1) rfl rfl) (rk_preS hP hD hS hR hn hPL hnl hV [] [(false, 1), (false, 2), (false, 3)] rfl (by decide) rfl (by decide))) rfl rfl hl.1 rfl (lv_room (Nat.le_of_ble_eq_true rfl)) dX9_code_4 ⟨(Nat.le_of_ble_eq_true rfl), (Nat.le_of_ble_eq_true rfl)⟩) hP hD hS hA hR0 hn [] [] rfl rfl (by decide) (by decide) (fun H locs hP hD hS hR => ?_)
  have hP : va_P D vwCl [] H := hP
  have hD : va_D A [] := hD
  exact hret r_4 _ _ _ _ h dX9_code_7 hP hD hS
set_option maxHeartbeats 4000000 in
set_option maxRecDepth 100000 in
theorem mtX9_decode (l : Launch) (D : va_G) (cI cJ cO : ClassId) (LP : List Nat) (FP : Nat → Fm) (sz : Nat) (a_this : Nat) (a_this_buffer : Nat) (a_this_draft : Nat) (a_this_desk : Nat) (a_this_archive : Nat) (a_this_present : Nat) (a_this_archive_families : Nat) (a_this_archive_places : Nat) (f_this_archive_used : Int32) (f_this_archive_product : Int64) (c_this_archive_places : Nat → Int64) (c_this_archive_families : Nat → Option Nat) (v_p1 : Int64) (r0 : Int32 × (Nat → Int64)) (h : fX9_decode LP FP f_this_archive_used f_this_archive_product c_this_archive_places c_this_archive_families v_p1 = some r0) : Met l yX9_decode (rk_w yX9_decode cX9_decode 3 (some .int)) rmX9_decode (va_Pc [.ref a_this, .long v_p1] (rk_B D (rk_TY cI cJ cO) [(a_this_archive_places, .inl (cJ, 10, .inr (.inl c_this_archive_places)))] [(a_this, .inr (8, [.ref a_this_buffer, .ref a_this_draft, .ref a_this_desk, .ref a_this_archive, .ref a_this_present])), (a_this_archive, .inr (0, [.ref a_this_archive_families, .ref a_this_archive_places, .int f_this_archive_used, .long f_this_archive_product])), (a_this_archive_families, .inl (cO, 10, .inr (.inr (.inr (.inr c_this_archive_families)))))] (rk_pl LP FP) sz)) (rk_Qi r0.1 D [(a_this_archive_places, .inl (cJ, 10, .inr (.inl r0.2)))] [(a_this_archive_places, .inl (cJ, 10, .inr (.inl c_this_archive_places)))] sz) 0 0 (va_A [(a_this_archive_places, .inl (cJ, 10, .inr (.inl c_this_archive_places)))] sz) := by
  refine rk_meti h (fun x : Int32 × (Nat → Int64) => x.1) (fun x => [(a_this_archive_places, .inl (cJ, 10, .inr (.inl x.2)))]) (by decide) (Nat.le_of_ble_eq_true rfl) ?_
  intro p e s m args below meth c A ls Q hret hname hF hP hD hA hV hR0 hn hPL hnl hl h hS
  have hx := hF.1
  have hb := hF.2.1
  have hml := hF.2.2.1
  have hown : s.vm.findClass RX9 = some m.cls := hF.2.2.2.1
  have htc := hF.2.2.2.2
  have hP : va_P D vwCl [(a_this_archive_places, .inl (cJ, 10, .inr (.inl c_this_archive_places)))] s.heap := hP
  have hD : va_D A [(a_this_archive_places, .inl (cJ, 10, .inr (.inl c_this_archive_places)))] := hD
  have hR0 : va_P D vwCl [(a_this, .inr (8, [.ref a_this_buffer, .ref a_this_draft, .ref a_this_desk, .ref a_this_archive, .ref a_this_present])), (a_this_archive, .inr (0, [.ref a_this_archive_families, .ref a_this_archive_places, .int f_this_archive_used, .long f_this_archive_product])), (a_this_archive_families, .inl (cO, 10, .inr (.inr (.inr (.inr c_this_archive_families)))))] s.heap := hR0
  have hR := hR0
  have hl : lv_has ls 3 [(0, .ref a_this), (1, .long v_p1)] := hl
  unfold fX9_decode at h
  refine lv_lload_n hx hb dX9_decode_0 rfl (lv_at hl 1 rfl) ?_
  refine lv_lconst (v := 0) hx hb dX9_decode_1 (by decide) ?_
  refine rk_lclt (tgt := 18) hx hb dX9_decode_2 dX9_decode_3 (by decide) (fun hc1 => ?_) (fun hc1 => ?_)
  · have h := rk_if hc1 h
    refine lv_iconst (v := (-1)) hx hb dX9_decode_18 (by decide) ?_
    exact hret ((-1 : Int32), c_this_archive_places) _ _ _ _ h dX9_decode_19 hP hD hS
  · have h := rk_nif hc1 h
    refine lv_lload_n hx hb dX9_decode_6 rfl (lv_at hl 1 rfl) ?_
    refine lv_aload_n hx hb dX9_decode_7 rfl (lv_at hl 0 rfl) ?_
    refine va_get (D := D) (ci := 8) (v := .ref a_this_archive) (C := RX9) (T := TX9) (N := 5) hx hb htc inX9 hown hV.1 hR 0 rfl rfl 3 (by decide) (htc _ w_1_155) (fun _ h9 => h9) rfl dX9_decode_8 ?_
    refine va_getN (D := D) (ci := 0) (v := .long f_this_archive_product) (C := RX0) (T := TX0) (N := 4) hx hb htc inX0 hown hV.1 hR 1 rfl rfl 3 (by decide) (va_Nw.use rfl (hV.2.1 _ nw_1_98)) (fun _ h9 => h9) rfl dX9_decode_11 ?_
    refine rk_lclt (tgt := 20) hx hb dX9_decode_14 dX9_decode_15 (by decide) (fun hc2 => ?_) (fun hc2 => ?_)
    · have h := rk_if hc2 h
      refine lv_aload_n hx hb dX9_decode_20 rfl (lv_at hl 0 rfl) ?_
      refine va_get (D := D) (ci := 8) (v := .ref a_this_archive) (C := RX9) (T := TX9) (N := 5) hx hb htc inX9 hown hV.1 hR 0 rfl rfl 3 (by decide) (htc _ w_1_155) (fun _ h9 => h9) rfl dX9_decode_21 ?_
      refine lv_lload_n hx hb dX9_decode_24 rfl (lv_at hl 1 rfl) ?_
      obtain ⟨r_25, hc_25, h⟩ := rk_bd h
      refine rk_i (wr := []) (va_runVN (C := RX0) (As := [.long v_p1]) (rest := []) hF (mtX0_unpack l D cI cJ cO LP FP _ a_this_archive a_this_archive_families a_this_archive_places f_this_archive_used f_this_archive_product c_this_archive_places c_this_archive_families v_p1 r_25 hc_25) ⟨va_cnB 1 htc (rk_gw w_3_199) rfl rfl rfl (hV.2.1 _ nw_3_196) (htc _ w_1_4) (by decide +kernel) ⟨(Nat.le_of_ble_eq_true rfl), (Nat.le_of_ble_eq_true rfl)⟩, htc _ w_3_198, htc _ ws_29⟩ (rk_preV (va_recv hV.1 hR (ci := 0) (q0 := 1) rfl rfl) (rk_preS hP hD hS hR hn hPL hnl hV [0] [(false, 1), (false, 2)] rfl (by decide) rfl (by decide))) rfl rfl hl.1 rfl (lv_room (Nat.le_of_ble_eq_true rfl)) dX9_decode_25 ⟨(Nat.le_of_ble_eq_true rfl), (Nat.le_of_ble_eq_true rfl)⟩) hP hD hS hA hR0 hn [0] [] rfl rfl (by decide) (by decide) (fun H locs hP hD hS hR => ?_)
      have hP : va_P D vwCl [(a_this_archive_places, .inl (cJ, 10, .inr (.inl r_25.2)))] H := hP
      have hD : va_D A [(a_this_archive_places, .inl (cJ, 10, .inr (.inl r_25.2)))] := hD
      exact hret (r_25.1, r_25.2) _ _ _ _ h dX9_decode_28 hP hD hS
    · have h := rk_nif hc2 h
      refine lv_iconst (v := (-1)) hx hb dX9_decode_18 (by decide) ?_
      exact hret ((-1 : Int32), c_this_archive_places) _ _ _ _ h dX9_decode_19 hP hD hS
set_option maxHeartbeats 4000000 in
set_option maxRecDepth 100000 in
theorem mtX9_sort (l : Launch) (D : va_G) (cI cJ cO : ClassId) (LP : List Nat) (FP : Nat → Fm) (sz : Nat) (a_this : Nat) (a_this_buffer : Nat) (a_this_draft : Nat) (a_this_desk : Nat) (a_this_archive : Nat) (a_this_present : Nat) (a_this_archive_families : Nat) (a_this_archive_places : Nat) (f_this_archive_used : Int32) (f_this_archive_product : Int64) (c_this_archive_families : Nat → Option Nat) (c_this_archive_places : Nat → Int64) (r0 : Int32 × (Nat → Option Nat) × (Nat → Int64)) (h : fX9_sort LP FP f_this_archive_used c_this_archive_families c_this_archive_places = some r0) : Met l yX9_sort (rk_w yX9_sort cX9_sort 1 (some .int)) rmX9_sort (va_Pc [.ref a_this] (rk_B D (rk_TY cI cJ cO) [(a_this_archive_families, .inl (cO, 10, .inr (.inr (.inr (.inr c_this_archive_families))))), (a_this_archive_places, .inl (cJ, 10, .inr (.inl c_this_archive_places)))] [(a_this, .inr (8, [.ref a_this_buffer, .ref a_this_draft, .ref a_this_desk, .ref a_this_archive, .ref a_this_present])), (a_this_archive, .inr (0, [.ref a_this_archive_families, .ref a_this_archive_places, .int f_this_archive_used, .long f_this_archive_product]))] (rk_pl LP FP) sz)) (rk_Qi r0.1 D [(a_this_archive_families, .inl (cO, 10, .inr (.inr (.inr (.inr r0.2.1))))), (a_this_archive_places, .inl (cJ, 10, .inr (.inl r0.2.2)))] [(a_this_archive_families, .inl (cO, 10, .inr (.inr (.inr (.inr c_this_archive_families))))), (a_this_archive_places, .inl (cJ, 10, .inr (.inl c_this_archive_places)))] sz) 0 0 (va_A [(a_this_archive_families, .inl (cO, 10, .inr (.inr (.inr (.inr c_this_archive_families))))), (a_this_archive_places, .inl (cJ, 10, .inr (.inl c_this_archive_places)))] sz) := by
  refine rk_meti h (fun x : Int32 × (Nat → Option Nat) × (Nat → Int64) => x.1) (fun x => [(a_this_archive_families, .inl (cO, 10, .inr (.inr (.inr (.inr x.2.1))))), (a_this_archive_places, .inl (cJ, 10, .inr (.inl x.2.2)))]) (by decide) (Nat.le_of_ble_eq_true rfl) ?_
  intro p e s m args below meth c A ls Q hret hname hF hP hD hA hV hR0 hn hPL hnl hl h hS
  have hx := hF.1
  have hb := hF.2.1
  have hml := hF.2.2.1
  have hown : s.vm.findClass RX9 = some m.cls := hF.2.2.2.1
  have htc := hF.2.2.2.2
  have hP : va_P D vwCl [(a_this_archive_families, .inl (cO, 10, .inr (.inr (.inr (.inr c_this_archive_families))))), (a_this_archive_places, .inl (cJ, 10, .inr (.inl c_this_archive_places)))] s.heap := hP
  have hD : va_D A [(a_this_archive_families, .inl (cO, 10, .inr (.inr (.inr (.inr c_this_archive_families))))), (a_this_archive_places, .inl (cJ, 10, .inr (.inl c_this_archive_places)))] := hD
  have hR0 : va_P D vwCl [(a_this, .inr (8, [.ref a_this_buffer, .ref a_this_draft, .ref a_this_desk, .ref a_this_archive, .ref a_this_present])), (a_this_archive, .inr (0, [.ref a_this_archive_families, .ref a_this_archive_places, .int f_this_archive_used, .long f_this_archive_product]))] s.heap := hR0
  have hR := hR0
  have hl : lv_has ls 1 [(0, .ref a_this)] := hl
  unfold fX9_sort at h
  refine lv_aload_n hx hb dX9_sort_0 rfl (lv_at hl 0 rfl) ?_
  refine va_get (D := D) (ci := 8) (v := .ref a_this_archive) (C := RX9) (T := TX9) (N := 5) hx hb htc inX9 hown hV.1 hR 0 rfl rfl 3 (by decide) (htc _ w_1_155) (fun _ h9 => h9) rfl dX9_sort_1 ?_
  obtain ⟨r_4, hc_4, h⟩ := rk_bd h
  refine rk_i (wr := []) (va_runVN (C := RX0) (As := []) (rest := []) hF (mtX0_arrange l D cI cJ cO LP FP _ a_this_archive a_this_archive_families a_this_archive_places f_this_archive_used f_this_archive_product c_this_archive_families c_this_archive_places r_4 hc_4) ⟨va_cnB 0 htc (rk_gw w_3_208) rfl rfl rfl (hV.2.1 _ nw_3_205) (htc _ w_1_4) (by decide +kernel) ⟨(Nat.le_of_ble_eq_true rfl), (Nat.le_of_ble_eq_true rfl)⟩, htc _ w_3_207, htc _ ws_30⟩ (rk_preV (va_recv hV.1 hR (ci := 0) (q0 := 1) rfl rfl) (rk_preS hP hD hS hR hn hPL hnl hV [0, 1] [(false, 1)] rfl (by decide) rfl (by decide))) rfl rfl hl.1 rfl (lv_room (Nat.le_of_ble_eq_true rfl)) dX9_sort_4 ⟨(Nat.le_of_ble_eq_true rfl), (Nat.le_of_ble_eq_true rfl)⟩) hP hD hS hA hR0 hn [0, 1] [] rfl rfl (by decide) (by decide) (fun H locs hP hD hS hR => ?_)
  have hP : va_P D vwCl [(a_this_archive_families, .inl (cO, 10, .inr (.inr (.inr (.inr r_4.2.1))))), (a_this_archive_places, .inl (cJ, 10, .inr (.inl r_4.2.2)))] H := hP
  have hD : va_D A [(a_this_archive_families, .inl (cO, 10, .inr (.inr (.inr (.inr r_4.2.1))))), (a_this_archive_places, .inl (cJ, 10, .inr (.inl r_4.2.2)))] := hD
  refine lv_if_eq (tgt := 14) hx hb dX9_sort_7 (by decide) (fun hc1 => ?_) (fun hc1 => ?_)
  · have h := rk_if hc1 h
    refine lv_iconst (v := 0) hx hb dX9_sort_14 (by decide) ?_
    exact hret ((0 : Int32), r_4.2.1, r_4.2.2) _ _ _ _ h dX9_sort_15 hP hD hS
  · have h := rk_nif hc1 h
    refine lv_iconst (v := 1) hx hb dX9_sort_10 (by decide) ?_
    refine lv_goto (tgt := 15) hx hb dX9_sort_11 (by decide) ?_
    exact hret ((1 : Int32), r_4.2.1, r_4.2.2) _ _ _ _ h dX9_sort_15 hP hD hS
set_option maxHeartbeats 4000000 in
set_option maxRecDepth 100000 in
theorem mtX10_layParted (l : Launch) (D : va_G) (cI cJ cO : ClassId) (PL : va_W) (sz : Nat) (a_this : Nat) (a_this_chosen : Nat) (a_this_factorial : Nat) (a_this_catalan : Nat) (a_this_parted : Nat) (a_this_closed : Nat) (f_this_now : Int32) (a_this_of : Nat) (a_this_buffer : Nat) (a_this_made : Nat) (a_this_stackOne : Nat) (a_this_stackOther : Nat) (a_this_stackLong : Nat) (a_this_left : Nat) (f_this_entryMany : Int32) (a_this_entryFamily : Nat) (a_this_entryOf : Nat) (a_this_entryRank : Nat) (c_this_parted : Nat → Int64) (r0 : (Nat → Int64)) (h : fX10_layParted c_this_parted = some r0) : Met l yX10_layParted (rk_w yX10_layParted cX10_layParted 5 none) rmX10_layParted (va_Pc [.ref a_this] (rk_B D (rk_TY cI cJ cO) [(a_this_parted, .inl (cJ, 3721, .inr (.inl c_this_parted)))] [(a_this, .inr (9, [.ref a_this_chosen, .ref a_this_factorial, .ref a_this_catalan, .ref a_this_parted, .ref a_this_closed, .int f_this_now, .ref a_this_of, .ref a_this_buffer, .ref a_this_made, .ref a_this_stackOne, .ref a_this_stackOther, .ref a_this_stackLong, .ref a_this_left, .int f_this_entryMany, .ref a_this_entryFamily, .ref a_this_entryOf, .ref a_this_entryRank]))] PL sz)) (rk_Qv D [(a_this_parted, .inl (cJ, 3721, .inr (.inl r0)))] [(a_this_parted, .inl (cJ, 3721, .inr (.inl c_this_parted)))] sz) 0 0 (va_A [(a_this_parted, .inl (cJ, 3721, .inr (.inl c_this_parted)))] sz) := by
  refine rk_metv h (fun x => [(a_this_parted, .inl (cJ, 3721, .inr (.inl x)))]) (by decide) (Nat.le_of_ble_eq_true rfl) ?_
  intro p e s m args below meth c A ls Q hret hname hF hP hD hA hV hR0 hn hPL hnl hl h hS
  have hx := hF.1
  have hb := hF.2.1
  have hml := hF.2.2.1
  have hown : s.vm.findClass RX10 = some m.cls := hF.2.2.2.1
  have htc := hF.2.2.2.2
  have hP : va_P D vwCl [(a_this_parted, .inl (cJ, 3721, .inr (.inl c_this_parted)))] s.heap := hP
  have hD : va_D A [(a_this_parted, .inl (cJ, 3721, .inr (.inl c_this_parted)))] := hD
  have hR0 : va_P D vwCl [(a_this, .inr (9, [.ref a_this_chosen, .ref a_this_factorial, .ref a_this_catalan, .ref a_this_parted, .ref a_this_closed, .int f_this_now, .ref a_this_of, .ref a_this_buffer, .ref a_this_made, .ref a_this_stackOne, .ref a_this_stackOther, .ref a_this_stackLong, .ref a_this_left, .int f_this_entryMany, .ref a_this_entryFamily, .ref a_this_entryOf, .ref a_this_entryRank]))] s.heap := hR0
  have hR := hR0
  have hl : lv_has ls 5 [(0, .ref a_this)] := hl
  unfold fX10_layParted at h
  refine lv_iconst (v := 0) hx hb dX10_layParted_0 (by decide) ?_
  refine lv_istore_n (lv' := [(1, .int (0 : Int32)), (0, .ref a_this)]) hx hb dX10_layParted_1 rfl hl (by decide) rfl (fun ls hl => ?_)
  have L2 : ∀ (n2 : Nat) (b2_l1 : Int32) (b2_c_this_parted : Nat → Int64), rk_it2 (fX10_layParted_L2) n2 b2_l1 b2_c_this_parted = some r0 → ∀ (H : Heap) (locs : List Loc), va_P D vwCl [(a_this_parted, .inl (cJ, 3721, .inr (.inl b2_c_this_parted)))] H → va_D A [(a_this_parted, .inl (cJ, 3721, .inr (.inl b2_c_this_parted)))] → va_S A s.heap H locs → ∀ (ls : Array Slot), lv_has ls 5 [(0, .ref a_this), (1, .int b2_l1)] → W p l e rmX10_layParted s m args below meth c H locs 0 0 Q (F0 m 2 ls []) := by
    intro n2
    induction n2 with
    | zero => intro b2_l1 b2_c_this_parted h; exact rk_no h
    | succ n2 ih2 =>
      intro b2_l1 b2_c_this_parted h H locs hP hD hS ls hl
      have h : fX10_layParted_L2 (rk_it2 (fX10_layParted_L2) n2) b2_l1 b2_c_this_parted = some r0 := h
      unfold fX10_layParted_L2 at h
      have hR := rk_keep hR0 hn hS
      refine lv_iload_n hx hb dX10_layParted_2 rfl (lv_at hl 1 rfl) ?_
      refine lv_bipush (v := 61) hx hb dX10_layParted_3 (by decide) ?_
      refine lv_icmp_ge (tgt := 95) hx hb dX10_layParted_5 (by decide) (fun hc1 => ?_) (fun hc1 => ?_)
      · have h := rk_if hc1 h
        exact hret b2_c_this_parted _ _ _ _ h dX10_layParted_95 hP hD hS
      · have h := rk_nif hc1 h
        refine lv_iconst (v := 0) hx hb dX10_layParted_8 (by decide) ?_
        refine lv_istore_n (lv' := [(2, .int (0 : Int32)), (0, .ref a_this), (1, .int b2_l1)]) hx hb dX10_layParted_9 rfl hl (by decide) rfl (fun ls hl => ?_)
        have L10 : ∀ (n10 : Nat) (b10_l2 : Int32) (b10_c_this_parted : Nat → Int64), rk_it2 (fX10_layParted_L10 b2_l1 (rk_it2 (fX10_layParted_L2) n2)) n10 b10_l2 b10_c_this_parted = some r0 → ∀ (H : Heap) (locs : List Loc), va_P D vwCl [(a_this_parted, .inl (cJ, 3721, .inr (.inl b10_c_this_parted)))] H → va_D A [(a_this_parted, .inl (cJ, 3721, .inr (.inl b10_c_this_parted)))] → va_S A s.heap H locs → ∀ (ls : Array Slot), lv_has ls 5 [(0, .ref a_this), (1, .int b2_l1), (2, .int b10_l2)] → W p l e rmX10_layParted s m args below meth c H locs 0 0 Q (F0 m 10 ls []) := by
          intro n10
          induction n10 with
          | zero => intro b10_l2 b10_c_this_parted h; exact rk_no h
          | succ n10 ih10 =>
            intro b10_l2 b10_c_this_parted h H locs hP hD hS ls hl
            have h : fX10_layParted_L10 b2_l1 (rk_it2 (fX10_layParted_L2) n2) (rk_it2 (fX10_layParted_L10 b2_l1 (rk_it2 (fX10_layParted_L2) n2)) n10) b10_l2 b10_c_this_parted = some r0 := h
            unfold fX10_layParted_L10 at h
            have hR := rk_keep hR0 hn hS
            refine lv_iload_n hx hb dX10_layParted_10 rfl (lv_at hl 2 rfl) ?_
            refine lv_bipush (v := 61) hx hb dX10_layParted_11 (by decide) ?_
            refine lv_icmp_ge (tgt := 89) hx hb dX10_layParted_13 (by decide) (fun hc2 => ?_) (fun hc2 => ?_)
            · have h := rk_if hc2 h
              refine lv_iinc (v := (b2_l1 + 1)) (lv' := [(1, .int (b2_l1 + 1)), (0, .ref a_this), (2, .int b10_l2)]) hx hb dX10_layParted_89 hl (k := 1) rfl rfl (by decide) rfl (fun ls hl => ?_)
              refine lv_goto (tgt := 2) hx hb dX10_layParted_92 (by decide) ?_
              exact ih2 (b2_l1 + 1) b10_c_this_parted h _ _ hP hD hS _ (lv_sub hl [1, 0] rfl)
            · have h := rk_nif hc2 h
              refine lv_iload_n hx hb dX10_layParted_16 rfl (lv_at hl 2 rfl) ?_
              have B25 : ∀ (b25_t0 : Int64), fX10_layParted_B25 b2_l1 b10_l2 b10_c_this_parted (rk_it2 (fX10_layParted_L10 b2_l1 (rk_it2 (fX10_layParted_L2) n2)) n10) b25_t0 = some r0 → ∀ (H : Heap) (locs : List Loc), va_P D vwCl [(a_this_parted, .inl (cJ, 3721, .inr (.inl b10_c_this_parted)))] H → va_D A [(a_this_parted, .inl (cJ, 3721, .inr (.inl b10_c_this_parted)))] → va_S A s.heap H locs → ∀ (ls : Array Slot), lv_has ls 5 [(0, .ref a_this), (1, .int b2_l1), (2, .int b10_l2)] → W p l e rmX10_layParted s m args below meth c H locs 0 0 Q (F0 m 25 ls [.long b25_t0]) := by
                intro b25_t0 h H locs hP hD hS ls hl
                unfold fX10_layParted_B25 at h
                have hR := rk_keep hR0 hn hS
                refine lv_lstore_n (lv' := [(3, .long b25_t0), (0, .ref a_this), (1, .int b2_l1), (2, .int b10_l2)]) hx hb dX10_layParted_25 rfl hl (by decide) rfl (fun ls hl => ?_)
                refine lv_iload_n hx hb dX10_layParted_26 rfl (lv_at hl 2 rfl) ?_
                have B71 : ∀ (b71_l3 : Int64), fX10_layParted_B71 b2_l1 b10_l2 b10_c_this_parted (rk_it2 (fX10_layParted_L10 b2_l1 (rk_it2 (fX10_layParted_L2) n2)) n10) b71_l3 = some r0 → ∀ (H : Heap) (locs : List Loc), va_P D vwCl [(a_this_parted, .inl (cJ, 3721, .inr (.inl b10_c_this_parted)))] H → va_D A [(a_this_parted, .inl (cJ, 3721, .inr (.inl b10_c_this_parted)))] → va_S A s.heap H locs → ∀ (ls : Array Slot), lv_has ls 5 [(0, .ref a_this), (1, .int b2_l1), (2, .int b10_l2), (3, .long b71_l3)] → W p l e rmX10_layParted s m args below meth c H locs 0 0 Q (F0 m 71 ls []) := by
                  intro b71_l3 h H locs hP hD hS ls hl
                  unfold fX10_layParted_B71 at h
                  have hR := rk_keep hR0 hn hS
                  refine lv_aload_n hx hb dX10_layParted_71 rfl (lv_at hl 0 rfl) ?_
                  refine va_get (D := D) (ci := 9) (v := .ref a_this_parted) (C := RX10) (T := TX10) (N := 17) hx hb htc inX10 hown hV.1 hR 0 rfl rfl 3 (by decide) (htc _ w_4_1) (fun _ h9 => h9) rfl dX10_layParted_72 ?_
                  refine lv_bipush (v := 61) hx hb dX10_layParted_75 (by decide) ?_
                  refine lv_iload_n hx hb dX10_layParted_77 rfl (lv_at hl 1 rfl) ?_
                  refine lv_imul hx hb dX10_layParted_78 ?_
                  refine lv_iload_n hx hb dX10_layParted_79 rfl (lv_at hl 2 rfl) ?_
                  refine lv_iadd hx hb dX10_layParted_80 ?_
                  refine lv_lload_n hx hb dX10_layParted_81 rfl (lv_at hl 3 rfl) ?_
                  obtain ⟨hg3, h⟩ := rk_gd h
                  refine va_last hx hb hV.1 hP hD hS 0 1 rfl rfl hg3 dX10_layParted_82 (fun H locs hP hD hS => ?_)
                  have hP : va_P D vwCl [(a_this_parted, .inl (cJ, 3721, .inr (.inl (vp_updL b10_c_this_parted (((61 : Int32) * b2_l1) + b10_l2).toNatClampNeg b71_l3))))] H := hP
                  have hD : va_D A [(a_this_parted, .inl (cJ, 3721, .inr (.inl (vp_updL b10_c_this_parted (((61 : Int32) * b2_l1) + b10_l2).toNatClampNeg b71_l3))))] := hD
                  have hR := rk_keep hR0 hn hS
                  refine lv_iinc (v := (b10_l2 + 1)) (lv' := [(2, .int (b10_l2 + 1)), (0, .ref a_this), (1, .int b2_l1), (3, .long b71_l3)]) hx hb dX10_layParted_83 hl (k := 2) rfl rfl (by decide) rfl (fun ls hl => ?_)
                  refine lv_goto (tgt := 10) hx hb dX10_layParted_86 (by decide) ?_
                  exact ih10 (b10_l2 + 1) (vp_updL b10_c_this_parted (((61 : Int32) * b2_l1) + b10_l2).toNatClampNeg b71_l3) h _ _ hP hD hS _ (lv_sub hl [1, 2, 0] rfl)
                refine lv_if_le (tgt := 71) hx hb dX10_layParted_27 (by decide) (fun hc4 => ?_) (fun hc4 => ?_)
                · have h := rk_if hc4 h
                  exact B71 b25_t0 h _ _ hP hD hS _ (lv_sub hl [1, 2, 3, 0] rfl)
                · have h := rk_nif hc4 h
                  refine lv_iload_n hx hb dX10_layParted_30 rfl (lv_at hl 3 rfl) ?_
                  refine lv_if_le (tgt := 71) hx hb dX10_layParted_31 (by decide) (fun hc5 => ?_) (fun hc5 => ?_)
                  · have h := rk_if hc5 h
                    exact B71 b25_t0 h _ _ hP hD hS _ (lv_sub hl [1, 2, 3, 0] rfl)
                  · have h := rk_nif hc5 h
                    refine lv_aload_n hx hb dX10_layParted_34 rfl (lv_at hl 1 rfl) ?_
                    refine va_get (D := D) (ci := 9) (v := .ref a_this_parted) (C := RX10) (T := TX10) (N := 17) hx hb htc inX10 hown hV.1 hR 0 rfl rfl 3 (by decide) (htc _ w_4_1) (fun _ h9 => h9) rfl dX10_layParted_35 ?_
                    refine lv_bipush (v := 61) hx hb dX10_layParted_38 (by decide) ?_
                    refine lv_iload_n hx hb dX10_layParted_40 rfl (lv_at hl 2 rfl) ?_
                    refine lv_iconst (v := 1) hx hb dX10_layParted_41 (by decide) ?_
                    refine lv_isub hx hb dX10_layParted_42 ?_
                    refine lv_imul hx hb dX10_layParted_43 ?_
                    refine lv_iload_n hx hb dX10_layParted_44 rfl (lv_at hl 3 rfl) ?_
                    refine lv_iadd hx hb dX10_layParted_45 ?_
                    obtain ⟨hg6, h⟩ := rk_gd h
                    refine va_lald hx hb hV.1 hP 0 1 rfl rfl hg6 dX10_layParted_46 ?_
                    refine lv_iload_n hx hb dX10_layParted_47 rfl (lv_at hl 3 rfl) ?_
                    refine lv_iload_n hx hb dX10_layParted_48 rfl (lv_at hl 2 rfl) ?_
                    have B69 : ∀ (b69_t1 : Int64), fX10_layParted_B69 b2_l1 b10_l2 b10_c_this_parted (rk_it2 (fX10_layParted_L10 b2_l1 (rk_it2 (fX10_layParted_L2) n2)) n10) b69_t1 = some r0 → ∀ (H : Heap) (locs : List Loc), va_P D vwCl [(a_this_parted, .inl (cJ, 3721, .inr (.inl b10_c_this_parted)))] H → va_D A [(a_this_parted, .inl (cJ, 3721, .inr (.inl b10_c_this_parted)))] → va_S A s.heap H locs → ∀ (ls : Array Slot), lv_has ls 5 [(0, .ref a_this), (1, .int b2_l1), (2, .int b10_l2)] → W p l e rmX10_layParted s m args below meth c H locs 0 0 Q (F0 m 69 ls [.long b69_t1, .long (b10_c_this_parted (((61 : Int32) * (b2_l1 - (1 : Int32))) + b10_l2).toNatClampNeg)]) := by
                      intro b69_t1 h H locs hP hD hS ls hl
                      unfold fX10_layParted_B69 at h
                      have hR := rk_keep hR0 hn hS
                      refine lv_ladd hx hb dX10_layParted_69 ?_
                      refine lv_lstore_n (lv' := [(3, .long ((b10_c_this_parted (((61 : Int32) * (b2_l1 - (1 : Int32))) + b10_l2).toNatClampNeg) + b69_t1)), (0, .ref a_this), (1, .int b2_l1), (2, .int b10_l2)]) hx hb dX10_layParted_70 rfl hl (by decide) rfl (fun ls hl => ?_)
                      exact B71 ((b10_c_this_parted (((61 : Int32) * (b2_l1 - (1 : Int32))) + b10_l2).toNatClampNeg) + b69_t1) h _ _ hP hD hS _ (lv_sub hl [1, 2, 3, 0] rfl)
                    refine lv_icmp_lt (tgt := 68) hx hb dX10_layParted_49 (by decide) (fun hc7 => ?_) (fun hc7 => ?_)
                    · have h := rk_if hc7 h
                      refine lv_lconst (v := 0) hx hb dX10_layParted_68 (by decide) ?_
                      exact B69 (0 : Int64) h _ _ hP hD hS _ (lv_sub hl [1, 2, 3] rfl)
                    · have h := rk_nif hc7 h
                      refine lv_aload_n hx hb dX10_layParted_52 rfl (lv_at hl 1 rfl) ?_
                      refine va_get (D := D) (ci := 9) (v := .ref a_this_parted) (C := RX10) (T := TX10) (N := 17) hx hb htc inX10 hown hV.1 hR 0 rfl rfl 3 (by decide) (htc _ w_4_1) (fun _ h9 => h9) rfl dX10_layParted_53 ?_
                      refine lv_bipush (v := 61) hx hb dX10_layParted_56 (by decide) ?_
                      refine lv_iload_n hx hb dX10_layParted_58 rfl (lv_at hl 2 rfl) ?_
                      refine lv_imul hx hb dX10_layParted_59 ?_
                      refine lv_iload_n hx hb dX10_layParted_60 rfl (lv_at hl 3 rfl) ?_
                      refine lv_iadd hx hb dX10_layParted_61 ?_
                      refine lv_iload_n hx hb dX10_layParted_62 rfl (lv_at hl 2 rfl) ?_
                      refine lv_isub hx hb dX10_layParted_63 ?_
                      obtain ⟨hg8, h⟩ := rk_gd h
                      refine va_lald hx hb hV.1 hP 0 1 rfl rfl hg8 dX10_layParted_64 ?_
                      refine lv_goto (tgt := 69) hx hb dX10_layParted_65 (by decide) ?_
                      exact B69 (b10_c_this_parted ((((61 : Int32) * b2_l1) + b10_l2) - b2_l1).toNatClampNeg) h _ _ hP hD hS _ (lv_sub hl [1, 2, 3] rfl)
              refine lv_if_ne (tgt := 24) hx hb dX10_layParted_17 (by decide) (fun hc9 => ?_) (fun hc9 => ?_)
              · have h := rk_if hc9 h
                refine lv_lconst (v := 0) hx hb dX10_layParted_24 (by decide) ?_
                exact B25 (0 : Int64) h _ _ hP hD hS _ hl
              · have h := rk_nnif hc9 h
                refine lv_lconst (v := 1) hx hb dX10_layParted_20 (by decide) ?_
                refine lv_goto (tgt := 25) hx hb dX10_layParted_21 (by decide) ?_
                exact B25 (1 : Int64) h _ _ hP hD hS _ hl
        exact L10 FU (0 : Int32) b2_c_this_parted h _ _ hP hD hS _ (lv_sub hl [1, 2, 0] rfl)
  exact L2 FU (0 : Int32) c_this_parted h _ _ hP hD hS _ (lv_sub hl [1, 0] rfl)
set_option maxHeartbeats 4000000 in
set_option maxRecDepth 100000 in
theorem mtX10_layClosed (l : Launch) (D : va_G) (cI cJ cO : ClassId) (PL : va_W) (sz : Nat) (a_this : Nat) (a_this_chosen : Nat) (a_this_factorial : Nat) (a_this_catalan : Nat) (a_this_parted : Nat) (a_this_closed : Nat) (f_this_now : Int32) (a_this_of : Nat) (a_this_buffer : Nat) (a_this_made : Nat) (a_this_stackOne : Nat) (a_this_stackOther : Nat) (a_this_stackLong : Nat) (a_this_left : Nat) (f_this_entryMany : Int32) (a_this_entryFamily : Nat) (a_this_entryOf : Nat) (a_this_entryRank : Nat) (c_this_closed : Nat → Int64) (r0 : (Nat → Int64)) (h : fX10_layClosed c_this_closed = some r0) : Met l yX10_layClosed (rk_w yX10_layClosed cX10_layClosed 5 none) rmX10_layClosed (va_Pc [.ref a_this] (rk_B D (rk_TY cI cJ cO) [(a_this_closed, .inl (cJ, 1722, .inr (.inl c_this_closed)))] [(a_this, .inr (9, [.ref a_this_chosen, .ref a_this_factorial, .ref a_this_catalan, .ref a_this_parted, .ref a_this_closed, .int f_this_now, .ref a_this_of, .ref a_this_buffer, .ref a_this_made, .ref a_this_stackOne, .ref a_this_stackOther, .ref a_this_stackLong, .ref a_this_left, .int f_this_entryMany, .ref a_this_entryFamily, .ref a_this_entryOf, .ref a_this_entryRank]))] PL sz)) (rk_Qv D [(a_this_closed, .inl (cJ, 1722, .inr (.inl r0)))] [(a_this_closed, .inl (cJ, 1722, .inr (.inl c_this_closed)))] sz) 0 0 (va_A [(a_this_closed, .inl (cJ, 1722, .inr (.inl c_this_closed)))] sz) := by
  refine rk_metv h (fun x => [(a_this_closed, .inl (cJ, 1722, .inr (.inl x)))]) (by decide) (Nat.le_of_ble_eq_true rfl) ?_
  intro p e s m args below meth c A ls Q hret hname hF hP hD hA hV hR0 hn hPL hnl hl h hS
  have hx := hF.1
  have hb := hF.2.1
  have hml := hF.2.2.1
  have hown : s.vm.findClass RX10 = some m.cls := hF.2.2.2.1
  have htc := hF.2.2.2.2
  have hP : va_P D vwCl [(a_this_closed, .inl (cJ, 1722, .inr (.inl c_this_closed)))] s.heap := hP
  have hD : va_D A [(a_this_closed, .inl (cJ, 1722, .inr (.inl c_this_closed)))] := hD
  have hR0 : va_P D vwCl [(a_this, .inr (9, [.ref a_this_chosen, .ref a_this_factorial, .ref a_this_catalan, .ref a_this_parted, .ref a_this_closed, .int f_this_now, .ref a_this_of, .ref a_this_buffer, .ref a_this_made, .ref a_this_stackOne, .ref a_this_stackOther, .ref a_this_stackLong, .ref a_this_left, .int f_this_entryMany, .ref a_this_entryFamily, .ref a_this_entryOf, .ref a_this_entryRank]))] s.heap := hR0
  have hR := hR0
  have hl : lv_has ls 5 [(0, .ref a_this)] := hl
  unfold fX10_layClosed at h
  refine lv_iconst (v := 0) hx hb dX10_layClosed_0 (by decide) ?_
  refine lv_istore_n (lv' := [(1, .int (0 : Int32)), (0, .ref a_this)]) hx hb dX10_layClosed_1 rfl hl (by decide) rfl (fun ls hl => ?_)
  have L2 : ∀ (n2 : Nat) (b2_l1 : Int32) (b2_c_this_closed : Nat → Int64), rk_it2 (fX10_layClosed_L2) n2 b2_l1 b2_c_this_closed = some r0 → ∀ (H : Heap) (locs : List Loc), va_P D vwCl [(a_this_closed, .inl (cJ, 1722, .inr (.inl b2_c_this_closed)))] H → va_D A [(a_this_closed, .inl (cJ, 1722, .inr (.inl b2_c_this_closed)))] → va_S A s.heap H locs → ∀ (ls : Array Slot), lv_has ls 5 [(0, .ref a_this), (1, .int b2_l1)] → W p l e rmX10_layClosed s m args below meth c H locs 0 0 Q (F0 m 2 ls []) := by
    intro n2
    induction n2 with
    | zero => intro b2_l1 b2_c_this_closed h; exact rk_no h
    | succ n2 ih2 =>
      intro b2_l1 b2_c_this_closed h H locs hP hD hS ls hl
      have h : fX10_layClosed_L2 (rk_it2 (fX10_layClosed_L2) n2) b2_l1 b2_c_this_closed = some r0 := h
      unfold fX10_layClosed_L2 at h
      have hR := rk_keep hR0 hn hS
      refine lv_iload_n hx hb dX10_layClosed_2 rfl (lv_at hl 1 rfl) ?_
      refine lv_bipush (v := 41) hx hb dX10_layClosed_3 (by decide) ?_
      refine lv_icmp_ge (tgt := 112) hx hb dX10_layClosed_5 (by decide) (fun hc1 => ?_) (fun hc1 => ?_)
      · have h := rk_if hc1 h
        exact hret b2_c_this_closed _ _ _ _ h dX10_layClosed_112 hP hD hS
      · have h := rk_nif hc1 h
        refine lv_iconst (v := 0) hx hb dX10_layClosed_8 (by decide) ?_
        refine lv_istore_n (lv' := [(2, .int (0 : Int32)), (0, .ref a_this), (1, .int b2_l1)]) hx hb dX10_layClosed_9 rfl hl (by decide) rfl (fun ls hl => ?_)
        have L10 : ∀ (n10 : Nat) (b10_l2 : Int32) (b10_c_this_closed : Nat → Int64), rk_it2 (fX10_layClosed_L10 b2_l1 (rk_it2 (fX10_layClosed_L2) n2)) n10 b10_l2 b10_c_this_closed = some r0 → ∀ (H : Heap) (locs : List Loc), va_P D vwCl [(a_this_closed, .inl (cJ, 1722, .inr (.inl b10_c_this_closed)))] H → va_D A [(a_this_closed, .inl (cJ, 1722, .inr (.inl b10_c_this_closed)))] → va_S A s.heap H locs → ∀ (ls : Array Slot), lv_has ls 5 [(0, .ref a_this), (1, .int b2_l1), (2, .int b10_l2)] → W p l e rmX10_layClosed s m args below meth c H locs 0 0 Q (F0 m 10 ls []) := by
          intro n10
          induction n10 with
          | zero => intro b10_l2 b10_c_this_closed h; exact rk_no h
          | succ n10 ih10 =>
            intro b10_l2 b10_c_this_closed h H locs hP hD hS ls hl
            have h : fX10_layClosed_L10 b2_l1 (rk_it2 (fX10_layClosed_L2) n2) (rk_it2 (fX10_layClosed_L10 b2_l1 (rk_it2 (fX10_layClosed_L2) n2)) n10) b10_l2 b10_c_this_closed = some r0 := h
            unfold fX10_layClosed_L10 at h
            have hR := rk_keep hR0 hn hS
            refine lv_iload_n hx hb dX10_layClosed_10 rfl (lv_at hl 2 rfl) ?_
            refine lv_bipush (v := 42) hx hb dX10_layClosed_11 (by decide) ?_
            refine lv_icmp_ge (tgt := 106) hx hb dX10_layClosed_13 (by decide) (fun hc2 => ?_) (fun hc2 => ?_)
            · have h := rk_if hc2 h
              refine lv_iinc (v := (b2_l1 + 1)) (lv' := [(1, .int (b2_l1 + 1)), (0, .ref a_this), (2, .int b10_l2)]) hx hb dX10_layClosed_106 hl (k := 1) rfl rfl (by decide) rfl (fun ls hl => ?_)
              refine lv_goto (tgt := 2) hx hb dX10_layClosed_109 (by decide) ?_
              exact ih2 (b2_l1 + 1) b10_c_this_closed h _ _ hP hD hS _ (lv_sub hl [1, 0] rfl)
            · have h := rk_nif hc2 h
              refine lv_iload_n hx hb dX10_layClosed_16 rfl (lv_at hl 1 rfl) ?_
              have B29 : ∀ (b29_t0 : Int64), fX10_layClosed_B29 b2_l1 b10_l2 b10_c_this_closed (rk_it2 (fX10_layClosed_L10 b2_l1 (rk_it2 (fX10_layClosed_L2) n2)) n10) b29_t0 = some r0 → ∀ (H : Heap) (locs : List Loc), va_P D vwCl [(a_this_closed, .inl (cJ, 1722, .inr (.inl b10_c_this_closed)))] H → va_D A [(a_this_closed, .inl (cJ, 1722, .inr (.inl b10_c_this_closed)))] → va_S A s.heap H locs → ∀ (ls : Array Slot), lv_has ls 5 [(0, .ref a_this), (1, .int b2_l1), (2, .int b10_l2)] → W p l e rmX10_layClosed s m args below meth c H locs 0 0 Q (F0 m 29 ls [.long b29_t0]) := by
                intro b29_t0 h H locs hP hD hS ls hl
                unfold fX10_layClosed_B29 at h
                have hR := rk_keep hR0 hn hS
                refine lv_lstore_n (lv' := [(3, .long b29_t0), (0, .ref a_this), (1, .int b2_l1), (2, .int b10_l2)]) hx hb dX10_layClosed_29 rfl hl (by decide) rfl (fun ls hl => ?_)
                refine lv_iload_n hx hb dX10_layClosed_30 rfl (lv_at hl 2 rfl) ?_
                have B88 : ∀ (b88_l3 : Int64), fX10_layClosed_B88 b2_l1 b10_l2 b10_c_this_closed (rk_it2 (fX10_layClosed_L10 b2_l1 (rk_it2 (fX10_layClosed_L2) n2)) n10) b88_l3 = some r0 → ∀ (H : Heap) (locs : List Loc), va_P D vwCl [(a_this_closed, .inl (cJ, 1722, .inr (.inl b10_c_this_closed)))] H → va_D A [(a_this_closed, .inl (cJ, 1722, .inr (.inl b10_c_this_closed)))] → va_S A s.heap H locs → ∀ (ls : Array Slot), lv_has ls 5 [(0, .ref a_this), (1, .int b2_l1), (2, .int b10_l2), (3, .long b88_l3)] → W p l e rmX10_layClosed s m args below meth c H locs 0 0 Q (F0 m 88 ls []) := by
                  intro b88_l3 h H locs hP hD hS ls hl
                  unfold fX10_layClosed_B88 at h
                  have hR := rk_keep hR0 hn hS
                  refine lv_aload_n hx hb dX10_layClosed_88 rfl (lv_at hl 0 rfl) ?_
                  refine va_get (D := D) (ci := 9) (v := .ref a_this_closed) (C := RX10) (T := TX10) (N := 17) hx hb htc inX10 hown hV.1 hR 0 rfl rfl 4 (by decide) (htc _ w_4_2) (fun _ h9 => h9) rfl dX10_layClosed_89 ?_
                  refine lv_bipush (v := 42) hx hb dX10_layClosed_92 (by decide) ?_
                  refine lv_iload_n hx hb dX10_layClosed_94 rfl (lv_at hl 1 rfl) ?_
                  refine lv_imul hx hb dX10_layClosed_95 ?_
                  refine lv_iload_n hx hb dX10_layClosed_96 rfl (lv_at hl 2 rfl) ?_
                  refine lv_iadd hx hb dX10_layClosed_97 ?_
                  refine lv_lload_n hx hb dX10_layClosed_98 rfl (lv_at hl 3 rfl) ?_
                  obtain ⟨hg3, h⟩ := rk_gd h
                  refine va_last hx hb hV.1 hP hD hS 0 1 rfl rfl hg3 dX10_layClosed_99 (fun H locs hP hD hS => ?_)
                  have hP : va_P D vwCl [(a_this_closed, .inl (cJ, 1722, .inr (.inl (vp_updL b10_c_this_closed (((42 : Int32) * b2_l1) + b10_l2).toNatClampNeg b88_l3))))] H := hP
                  have hD : va_D A [(a_this_closed, .inl (cJ, 1722, .inr (.inl (vp_updL b10_c_this_closed (((42 : Int32) * b2_l1) + b10_l2).toNatClampNeg b88_l3))))] := hD
                  have hR := rk_keep hR0 hn hS
                  refine lv_iinc (v := (b10_l2 + 1)) (lv' := [(2, .int (b10_l2 + 1)), (0, .ref a_this), (1, .int b2_l1), (3, .long b88_l3)]) hx hb dX10_layClosed_100 hl (k := 2) rfl rfl (by decide) rfl (fun ls hl => ?_)
                  refine lv_goto (tgt := 10) hx hb dX10_layClosed_103 (by decide) ?_
                  exact ih10 (b10_l2 + 1) (vp_updL b10_c_this_closed (((42 : Int32) * b2_l1) + b10_l2).toNatClampNeg b88_l3) h _ _ hP hD hS _ (lv_sub hl [1, 2, 0] rfl)
                refine lv_if_le (tgt := 88) hx hb dX10_layClosed_31 (by decide) (fun hc4 => ?_) (fun hc4 => ?_)
                · have h := rk_if hc4 h
                  exact B88 b29_t0 h _ _ hP hD hS _ (lv_sub hl [1, 2, 3, 0] rfl)
                · have h := rk_nif hc4 h
                  refine lv_lload_n hx hb dX10_layClosed_34 rfl (lv_at hl 0 rfl) ?_
                  refine lv_iload_n hx hb dX10_layClosed_35 rfl (lv_at hl 3 rfl) ?_
                  refine lv_bipush (v := 41) hx hb dX10_layClosed_36 (by decide) ?_
                  have B60 : ∀ (b60_t1 : Int64), fX10_layClosed_B60 b2_l1 b10_l2 b10_c_this_closed (rk_it2 (fX10_layClosed_L10 b2_l1 (rk_it2 (fX10_layClosed_L2) n2)) n10) b29_t0 b60_t1 = some r0 → ∀ (H : Heap) (locs : List Loc), va_P D vwCl [(a_this_closed, .inl (cJ, 1722, .inr (.inl b10_c_this_closed)))] H → va_D A [(a_this_closed, .inl (cJ, 1722, .inr (.inl b10_c_this_closed)))] → va_S A s.heap H locs → ∀ (ls : Array Slot), lv_has ls 5 [(0, .ref a_this), (1, .int b2_l1), (2, .int b10_l2)] → W p l e rmX10_layClosed s m args below meth c H locs 0 0 Q (F0 m 60 ls [.long b60_t1, .long b29_t0]) := by
                    intro b60_t1 h H locs hP hD hS ls hl
                    unfold fX10_layClosed_B60 at h
                    have hR := rk_keep hR0 hn hS
                    refine lv_ladd hx hb dX10_layClosed_60 ?_
                    refine lv_lstore_n (lv' := [(3, .long (b29_t0 + b60_t1)), (0, .ref a_this), (1, .int b2_l1), (2, .int b10_l2)]) hx hb dX10_layClosed_61 rfl hl (by decide) rfl (fun ls hl => ?_)
                    refine lv_lload_n hx hb dX10_layClosed_62 rfl (lv_at hl 0 rfl) ?_
                    refine lv_iload_n hx hb dX10_layClosed_63 rfl (lv_at hl 3 rfl) ?_
                    have B86 : ∀ (b86_t1 : Int64), fX10_layClosed_B86 b2_l1 b10_l2 b10_c_this_closed (rk_it2 (fX10_layClosed_L10 b2_l1 (rk_it2 (fX10_layClosed_L2) n2)) n10) b29_t0 b60_t1 b86_t1 = some r0 → ∀ (H : Heap) (locs : List Loc), va_P D vwCl [(a_this_closed, .inl (cJ, 1722, .inr (.inl b10_c_this_closed)))] H → va_D A [(a_this_closed, .inl (cJ, 1722, .inr (.inl b10_c_this_closed)))] → va_S A s.heap H locs → ∀ (ls : Array Slot), lv_has ls 5 [(0, .ref a_this), (1, .int b2_l1), (2, .int b10_l2)] → W p l e rmX10_layClosed s m args below meth c H locs 0 0 Q (F0 m 86 ls [.long b86_t1, .long (b29_t0 + b60_t1)]) := by
                      intro b86_t1 h H locs hP hD hS ls hl
                      unfold fX10_layClosed_B86 at h
                      have hR := rk_keep hR0 hn hS
                      refine lv_ladd hx hb dX10_layClosed_86 ?_
                      refine lv_lstore_n (lv' := [(3, .long ((b29_t0 + b60_t1) + b86_t1)), (0, .ref a_this), (1, .int b2_l1), (2, .int b10_l2)]) hx hb dX10_layClosed_87 rfl hl (by decide) rfl (fun ls hl => ?_)
                      exact B88 ((b29_t0 + b60_t1) + b86_t1) h _ _ hP hD hS _ (lv_sub hl [1, 2, 3, 0] rfl)
                    refine lv_if_le (tgt := 85) hx hb dX10_layClosed_64 (by decide) (fun hc5 => ?_) (fun hc5 => ?_)
                    · have h := rk_if hc5 h
                      refine lv_lconst (v := 0) hx hb dX10_layClosed_85 (by decide) ?_
                      exact B86 (0 : Int64) h _ _ hP hD hS _ (lv_sub hl [1, 2, 3] rfl)
                    · have h := rk_nif hc5 h
                      refine lv_aload_n hx hb dX10_layClosed_67 rfl (lv_at hl 1 rfl) ?_
                      refine va_get (D := D) (ci := 9) (v := .ref a_this_closed) (C := RX10) (T := TX10) (N := 17) hx hb htc inX10 hown hV.1 hR 0 rfl rfl 4 (by decide) (htc _ w_4_2) (fun _ h9 => h9) rfl dX10_layClosed_68 ?_
                      refine lv_bipush (v := 42) hx hb dX10_layClosed_71 (by decide) ?_
                      refine lv_iload_n hx hb dX10_layClosed_73 rfl (lv_at hl 2 rfl) ?_
                      refine lv_iconst (v := 1) hx hb dX10_layClosed_74 (by decide) ?_
                      refine lv_isub hx hb dX10_layClosed_75 ?_
                      refine lv_imul hx hb dX10_layClosed_76 ?_
                      refine lv_iload_n hx hb dX10_layClosed_77 rfl (lv_at hl 3 rfl) ?_
                      refine lv_iadd hx hb dX10_layClosed_78 ?_
                      refine lv_iconst (v := 1) hx hb dX10_layClosed_79 (by decide) ?_
                      refine lv_isub hx hb dX10_layClosed_80 ?_
                      obtain ⟨hg6, h⟩ := rk_gd h
                      refine va_lald hx hb hV.1 hP 0 1 rfl rfl hg6 dX10_layClosed_81 ?_
                      refine lv_goto (tgt := 86) hx hb dX10_layClosed_82 (by decide) ?_
                      exact B86 (b10_c_this_closed ((((42 : Int32) * (b2_l1 - (1 : Int32))) + b10_l2) - (1 : Int32)).toNatClampNeg) h _ _ hP hD hS _ (lv_sub hl [1, 2, 3] rfl)
                  refine lv_icmp_ge (tgt := 59) hx hb dX10_layClosed_38 (by decide) (fun hc7 => ?_) (fun hc7 => ?_)
                  · have h := rk_if hc7 h
                    refine lv_lconst (v := 0) hx hb dX10_layClosed_59 (by decide) ?_
                    exact B60 (0 : Int64) h _ _ hP hD hS _ (lv_sub hl [1, 2, 3] rfl)
                  · have h := rk_nif hc7 h
                    refine lv_aload_n hx hb dX10_layClosed_41 rfl (lv_at hl 1 rfl) ?_
                    refine va_get (D := D) (ci := 9) (v := .ref a_this_closed) (C := RX10) (T := TX10) (N := 17) hx hb htc inX10 hown hV.1 hR 0 rfl rfl 4 (by decide) (htc _ w_4_2) (fun _ h9 => h9) rfl dX10_layClosed_42 ?_
                    refine lv_bipush (v := 42) hx hb dX10_layClosed_45 (by decide) ?_
                    refine lv_iload_n hx hb dX10_layClosed_47 rfl (lv_at hl 2 rfl) ?_
                    refine lv_iconst (v := 1) hx hb dX10_layClosed_48 (by decide) ?_
                    refine lv_isub hx hb dX10_layClosed_49 ?_
                    refine lv_imul hx hb dX10_layClosed_50 ?_
                    refine lv_iload_n hx hb dX10_layClosed_51 rfl (lv_at hl 3 rfl) ?_
                    refine lv_iadd hx hb dX10_layClosed_52 ?_
                    refine lv_iconst (v := 1) hx hb dX10_layClosed_53 (by decide) ?_
                    refine lv_iadd hx hb dX10_layClosed_54 ?_
                    obtain ⟨hg8, h⟩ := rk_gd h
                    refine va_lald hx hb hV.1 hP 0 1 rfl rfl hg8 dX10_layClosed_55 ?_
                    refine lv_goto (tgt := 60) hx hb dX10_layClosed_56 (by decide) ?_
                    exact B60 (b10_c_this_closed ((((42 : Int32) * (b2_l1 - (1 : Int32))) + b10_l2) + (1 : Int32)).toNatClampNeg) h _ _ hP hD hS _ (lv_sub hl [1, 2, 3] rfl)
              have B28 : fX10_layClosed_B28 b2_l1 b10_l2 b10_c_this_closed (rk_it2 (fX10_layClosed_L10 b2_l1 (rk_it2 (fX10_layClosed_L2) n2)) n10) = some r0 → ∀ (H : Heap) (locs : List Loc), va_P D vwCl [(a_this_closed, .inl (cJ, 1722, .inr (.inl b10_c_this_closed)))] H → va_D A [(a_this_closed, .inl (cJ, 1722, .inr (.inl b10_c_this_closed)))] → va_S A s.heap H locs → ∀ (ls : Array Slot), lv_has ls 5 [(0, .ref a_this), (1, .int b2_l1), (2, .int b10_l2)] → W p l e rmX10_layClosed s m args below meth c H locs 0 0 Q (F0 m 28 ls []) := by
                intro  h H locs hP hD hS ls hl
                unfold fX10_layClosed_B28 at h
                have hR := rk_keep hR0 hn hS
                refine lv_lconst (v := 0) hx hb dX10_layClosed_28 (by decide) ?_
                exact B29 (0 : Int64) h _ _ hP hD hS _ hl
              refine lv_if_ne (tgt := 28) hx hb dX10_layClosed_17 (by decide) (fun hc9 => ?_) (fun hc9 => ?_)
              · have h := rk_if hc9 h
                exact B28  h _ _ hP hD hS _ hl
              · have h := rk_nnif hc9 h
                refine lv_iload_n hx hb dX10_layClosed_20 rfl (lv_at hl 2 rfl) ?_
                refine lv_if_ne (tgt := 28) hx hb dX10_layClosed_21 (by decide) (fun hc10 => ?_) (fun hc10 => ?_)
                · have h := rk_if hc10 h
                  exact B28  h _ _ hP hD hS _ hl
                · have h := rk_nnif hc10 h
                  refine lv_lconst (v := 1) hx hb dX10_layClosed_24 (by decide) ?_
                  refine lv_goto (tgt := 29) hx hb dX10_layClosed_25 (by decide) ?_
                  exact B29 (1 : Int64) h _ _ hP hD hS _ hl
        exact L10 FU (0 : Int32) b2_c_this_closed h _ _ hP hD hS _ (lv_sub hl [1, 2, 0] rfl)
  exact L2 FU (0 : Int32) c_this_closed h _ _ hP hD hS _ (lv_sub hl [1, 0] rfl)
set_option maxHeartbeats 4000000 in
set_option maxRecDepth 100000 in
theorem mtX10_init (l : Launch) (D : va_G) (cI cJ cO : ClassId) (PL : va_W) (sz : Nat) (a_this : Nat) (r0 : (Nat → Int64) × (Nat → Int64) × (Nat → Int64) × (Nat → Int64) × (Nat → Int64)) (h : fX10_init = some r0) : Met l yX10_init (rk_w yX10_init cX10_init 3 none) rmX10_init (va_Pc [.ref a_this] (rk_B D (rk_TY cI cJ cO) [(a_this, .inr (9, [.null, .null, .null, .null, .null, .int 0, .null, .null, .null, .null, .null, .null, .null, .int 0, .null, .null, .null]))] [] PL sz)) (rk_Qve D (fun q => [(a_this, .inr (9, [.ref (q 0), .ref (q 1), .ref (q 2), .ref (q 13), .ref (q 14), .int 0, .ref (q 3), .ref (q 4), .ref (q 5), .ref (q 6), .ref (q 7), .ref (q 8), .ref (q 9), .int 0, .ref (q 10), .ref (q 11), .ref (q 12)])), ((q 0), .inl (cJ, 3721, .inr (.inl r0.1))), ((q 1), .inl (cJ, 21, .inr (.inl r0.2.1))), ((q 2), .inl (cJ, 31, .inr (.inl r0.2.2.1))), ((q 3), .inl (cI, 4, .inl rk_z32)), ((q 4), .inl (cI, 60, .inl rk_z32)), ((q 5), .inl (cI, 60, .inl rk_z32)), ((q 6), .inl (cI, 64, .inl rk_z32)), ((q 7), .inl (cI, 64, .inl rk_z32)), ((q 8), .inl (cJ, 64, .inr (.inl rk_z64))), ((q 9), .inl (cI, 4, .inl rk_z32)), ((q 10), .inl (cI, 10, .inl rk_z32)), ((q 11), .inl (cI, 40, .inl rk_z32)), ((q 12), .inl (cJ, 10, .inr (.inl rk_z64))), ((q 13), .inl (cJ, 3721, .inr (.inl r0.2.2.2.1))), ((q 14), .inl (cJ, 1722, .inr (.inl r0.2.2.2.2)))]) [(a_this, .inr (9, [.null, .null, .null, .null, .null, .int 0, .null, .null, .null, .null, .null, .null, .null, .int 0, .null, .null, .null]))] sz) 15 9596 (va_A [(a_this, .inr (9, [.null, .null, .null, .null, .null, .int 0, .null, .null, .null, .null, .null, .null, .null, .int 0, .null, .null, .null]))] sz) := by
  refine rk_metve h (fun x q => [(a_this, .inr (9, [.ref (q 0), .ref (q 1), .ref (q 2), .ref (q 13), .ref (q 14), .int 0, .ref (q 3), .ref (q 4), .ref (q 5), .ref (q 6), .ref (q 7), .ref (q 8), .ref (q 9), .int 0, .ref (q 10), .ref (q 11), .ref (q 12)])), ((q 0), .inl (cJ, 3721, .inr (.inl x.1))), ((q 1), .inl (cJ, 21, .inr (.inl x.2.1))), ((q 2), .inl (cJ, 31, .inr (.inl x.2.2.1))), ((q 3), .inl (cI, 4, .inl rk_z32)), ((q 4), .inl (cI, 60, .inl rk_z32)), ((q 5), .inl (cI, 60, .inl rk_z32)), ((q 6), .inl (cI, 64, .inl rk_z32)), ((q 7), .inl (cI, 64, .inl rk_z32)), ((q 8), .inl (cJ, 64, .inr (.inl rk_z64))), ((q 9), .inl (cI, 4, .inl rk_z32)), ((q 10), .inl (cI, 10, .inl rk_z32)), ((q 11), .inl (cI, 40, .inl rk_z32)), ((q 12), .inl (cJ, 10, .inr (.inl rk_z64))), ((q 13), .inl (cJ, 3721, .inr (.inl x.2.2.2.1))), ((q 14), .inl (cJ, 1722, .inr (.inl x.2.2.2.2)))]) (by decide) (Nat.le_of_ble_eq_true rfl) ?_
  intro p e s m args below meth c A ls Q hret hname hF hP hD hA hV hR0 hn hPL hnl hl h hS
  have hx := hF.1
  have hb := hF.2.1
  have hml := hF.2.2.1
  have hown : s.vm.findClass RX10 = some m.cls := hF.2.2.2.1
  have htc := hF.2.2.2.2
  have hname : meth.name = "<init>" := hname
  have hP : va_P D vwCl [(a_this, .inr (9, [.null, .null, .null, .null, .null, .int 0, .null, .null, .null, .null, .null, .null, .null, .int 0, .null, .null, .null]))] s.heap := hP
  have hD : va_D A [(a_this, .inr (9, [.null, .null, .null, .null, .null, .int 0, .null, .null, .null, .null, .null, .null, .null, .int 0, .null, .null, .null]))] := hD
  have hR0 : va_P D vwCl [] s.heap := hR0
  have hR := hR0
  have hl : lv_has ls 3 [(0, .ref a_this)] := hl
  unfold fX10_init at h
  refine lv_aload_n hx hb dX10_init_0 rfl (lv_at hl 0 rfl) ?_
  refine W.objInit hx hb hown (htc _ w_3_229) (htc _ w_1_21) (htc _ w_1_22) rfl (by rw [hml]; exact hl.1) rfl dX10_init_1 (Nat.le_of_ble_eq_true rfl) (Nat.le_of_ble_eq_true rfl) ?_
  refine W.eq (g2 := F0 m 4 ls []) rfl ?_
  refine lv_aload_n hx hb dX10_init_4 rfl (lv_at hl 0 rfl) ?_
  refine lv_sipush (v := 3721) hx hb dX10_init_5 (by decide) ?_
  refine rk_newJ (N := 3721) hx hb (htc _ w_1_84) hV hP hD hS hA rfl (by decide) (by decide) (Nat.le_of_ble_eq_true rfl) (Nat.le_of_ble_eq_true rfl) (Nat.le_of_ble_eq_true rfl) dX10_init_8 (fun q_8 H hP hD hS => ?_)
  have hP : va_P D vwCl [(a_this, .inr (9, [.null, .null, .null, .null, .null, .int 0, .null, .null, .null, .null, .null, .null, .null, .int 0, .null, .null, .null])), (q_8, .inl (cJ, 3721, .inr (.inl rk_z64)))] H := hP
  have hD : va_D A [(a_this, .inr (9, [.null, .null, .null, .null, .null, .int 0, .null, .null, .null, .null, .null, .null, .null, .int 0, .null, .null, .null])), (q_8, .inl (cJ, 3721, .inr (.inl rk_z64)))] := hD
  refine va_putF (D := D) (ci := 9) (v := .ref q_8) (ty := (.array .long)) (C := RX10) (T := TX10) (N := 17) hx hb htc inX10 tyX10 tyX10_ok nmX10 hown hV.1 hP hD hS 0 rfl rfl 0 (by decide) (htc _ w_3_238) (fun _ h9 => h9) rfl hname rfl (by decide +kernel) rfl rfl (Nat.le_of_ble_eq_true rfl) dX10_init_10 (fun H locs hP hD hS => ?_)
  have hP : va_P D vwCl [(a_this, .inr (9, [.ref q_8, .null, .null, .null, .null, .int 0, .null, .null, .null, .null, .null, .null, .null, .int 0, .null, .null, .null])), (q_8, .inl (cJ, 3721, .inr (.inl rk_z64)))] H := hP
  have hD : va_D A [(a_this, .inr (9, [.ref q_8, .null, .null, .null, .null, .int 0, .null, .null, .null, .null, .null, .null, .null, .int 0, .null, .null, .null])), (q_8, .inl (cJ, 3721, .inr (.inl rk_z64)))] := hD
  refine lv_aload_n hx hb dX10_init_13 rfl (lv_at hl 0 rfl) ?_
  refine lv_bipush (v := 21) hx hb dX10_init_14 (by decide) ?_
  refine rk_newJ (N := 21) hx hb (htc _ w_1_84) hV hP hD hS hA rfl (by decide) (by decide) (Nat.le_of_ble_eq_true rfl) (Nat.le_of_ble_eq_true rfl) (Nat.le_of_ble_eq_true rfl) dX10_init_16 (fun q_16 H hP hD hS => ?_)
  have hP : va_P D vwCl [(a_this, .inr (9, [.ref q_8, .null, .null, .null, .null, .int 0, .null, .null, .null, .null, .null, .null, .null, .int 0, .null, .null, .null])), (q_8, .inl (cJ, 3721, .inr (.inl rk_z64))), (q_16, .inl (cJ, 21, .inr (.inl rk_z64)))] H := hP
  have hD : va_D A [(a_this, .inr (9, [.ref q_8, .null, .null, .null, .null, .int 0, .null, .null, .null, .null, .null, .null, .null, .int 0, .null, .null, .null])), (q_8, .inl (cJ, 3721, .inr (.inl rk_z64))), (q_16, .inl (cJ, 21, .inr (.inl rk_z64)))] := hD
  refine va_putF (D := D) (ci := 9) (v := .ref q_16) (ty := (.array .long)) (C := RX10) (T := TX10) (N := 17) hx hb htc inX10 tyX10 tyX10_ok nmX10 hown hV.1 hP hD hS 0 rfl rfl 1 (by decide) (htc _ w_3_239) (fun _ h9 => h9) rfl hname rfl (by decide +kernel) rfl rfl (Nat.le_of_ble_eq_true rfl) dX10_init_18 (fun H locs hP hD hS => ?_)
  have hP : va_P D vwCl [(a_this, .inr (9, [.ref q_8, .ref q_16, .null, .null, .null, .int 0, .null, .null, .null, .null, .null, .null, .null, .int 0, .null, .null, .null])), (q_8, .inl (cJ, 3721, .inr (.inl rk_z64))), (q_16, .inl (cJ, 21, .inr (.inl rk_z64)))] H := hP
  have hD : va_D A [(a_this, .inr (9, [.ref q_8, .ref q_16, .null, .null, .null, .int 0, .null, .null, .null, .null, .null, .null, .null, .int 0, .null, .null, .null])), (q_8, .inl (cJ, 3721, .inr (.inl rk_z64))), (q_16, .inl (cJ, 21, .inr (.inl rk_z64)))] := hD
  refine lv_aload_n hx hb dX10_init_21 rfl (lv_at hl 0 rfl) ?_
  refine lv_bipush (v := 31) hx hb dX10_init_22 (by decide) ?_
  refine rk_newJ (N := 31) hx hb (htc _ w_1_84) hV hP hD hS hA rfl (by decide) (by decide) (Nat.le_of_ble_eq_true rfl) (Nat.le_of_ble_eq_true rfl) (Nat.le_of_ble_eq_true rfl) dX10_init_24 (fun q_24 H hP hD hS => ?_)
  have hP : va_P D vwCl [(a_this, .inr (9, [.ref q_8, .ref q_16, .null, .null, .null, .int 0, .null, .null, .null, .null, .null, .null, .null, .int 0, .null, .null, .null])), (q_8, .inl (cJ, 3721, .inr (.inl rk_z64))), (q_16, .inl (cJ, 21, .inr (.inl rk_z64))), (q_24, .inl (cJ, 31, .inr (.inl rk_z64)))] H := hP
  have hD : va_D A [(a_this, .inr (9, [.ref q_8, .ref q_16, .null, .null, .null, .int 0, .null, .null, .null, .null, .null, .null, .null, .int 0, .null, .null, .null])), (q_8, .inl (cJ, 3721, .inr (.inl rk_z64))), (q_16, .inl (cJ, 21, .inr (.inl rk_z64))), (q_24, .inl (cJ, 31, .inr (.inl rk_z64)))] := hD
  refine va_putF (D := D) (ci := 9) (v := .ref q_24) (ty := (.array .long)) (C := RX10) (T := TX10) (N := 17) hx hb htc inX10 tyX10 tyX10_ok nmX10 hown hV.1 hP hD hS 0 rfl rfl 2 (by decide) (htc _ w_4_0) (fun _ h9 => h9) rfl hname rfl (by decide +kernel) rfl rfl (Nat.le_of_ble_eq_true rfl) dX10_init_26 (fun H locs hP hD hS => ?_)
  have hP : va_P D vwCl [(a_this, .inr (9, [.ref q_8, .ref q_16, .ref q_24, .null, .null, .int 0, .null, .null, .null, .null, .null, .null, .null, .int 0, .null, .null, .null])), (q_8, .inl (cJ, 3721, .inr (.inl rk_z64))), (q_16, .inl (cJ, 21, .inr (.inl rk_z64))), (q_24, .inl (cJ, 31, .inr (.inl rk_z64)))] H := hP
  have hD : va_D A [(a_this, .inr (9, [.ref q_8, .ref q_16, .ref q_24, .null, .null, .int 0, .null, .null, .null, .null, .null, .null, .null, .int 0, .null, .null, .null])), (q_8, .inl (cJ, 3721, .inr (.inl rk_z64))), (q_16, .inl (cJ, 21, .inr (.inl rk_z64))), (q_24, .inl (cJ, 31, .inr (.inl rk_z64)))] := hD
  refine lv_aload_n hx hb dX10_init_29 rfl (lv_at hl 0 rfl) ?_
  refine lv_sipush (v := 3721) hx hb dX10_init_30 (by decide) ?_
  refine rk_newJ (N := 3721) hx hb (htc _ w_1_84) hV hP hD hS hA rfl (by decide) (by decide) (Nat.le_of_ble_eq_true rfl) (Nat.le_of_ble_eq_true rfl) (Nat.le_of_ble_eq_true rfl) dX10_init_33 (fun q_33 H hP hD hS => ?_)
  have hP : va_P D vwCl [(a_this, .inr (9, [.ref q_8, .ref q_16, .ref q_24, .null, .null, .int 0, .null, .null, .null, .null, .null, .null, .null, .int 0, .null, .null, .null])), (q_8, .inl (cJ, 3721, .inr (.inl rk_z64))), (q_16, .inl (cJ, 21, .inr (.inl rk_z64))), (q_24, .inl (cJ, 31, .inr (.inl rk_z64))), (q_33, .inl (cJ, 3721, .inr (.inl rk_z64)))] H := hP
  have hD : va_D A [(a_this, .inr (9, [.ref q_8, .ref q_16, .ref q_24, .null, .null, .int 0, .null, .null, .null, .null, .null, .null, .null, .int 0, .null, .null, .null])), (q_8, .inl (cJ, 3721, .inr (.inl rk_z64))), (q_16, .inl (cJ, 21, .inr (.inl rk_z64))), (q_24, .inl (cJ, 31, .inr (.inl rk_z64))), (q_33, .inl (cJ, 3721, .inr (.inl rk_z64)))] := hD
  refine va_putF (D := D) (ci := 9) (v := .ref q_33) (ty := (.array .long)) (C := RX10) (T := TX10) (N := 17) hx hb htc inX10 tyX10 tyX10_ok nmX10 hown hV.1 hP hD hS 0 rfl rfl 3 (by decide) (htc _ w_4_1) (fun _ h9 => h9) rfl hname rfl (by decide +kernel) rfl rfl (Nat.le_of_ble_eq_true rfl) dX10_init_35 (fun H locs hP hD hS => ?_)
  have hP : va_P D vwCl [(a_this, .inr (9, [.ref q_8, .ref q_16, .ref q_24, .ref q_33, .null, .int 0, .null, .null, .null, .null, .null, .null, .null, .int 0, .null, .null, .null])), (q_8, .inl (cJ, 3721, .inr (.inl rk_z64))), (q_16, .inl (cJ, 21, .inr (.inl rk_z64))), (q_24, .inl (cJ, 31, .inr (.inl rk_z64))), (q_33, .inl (cJ, 3721, .inr (.inl rk_z64)))] H := hP
  have hD : va_D A [(a_this, .inr (9, [.ref q_8, .ref q_16, .ref q_24, .ref q_33, .null, .int 0, .null, .null, .null, .null, .null, .null, .null, .int 0, .null, .null, .null])), (q_8, .inl (cJ, 3721, .inr (.inl rk_z64))), (q_16, .inl (cJ, 21, .inr (.inl rk_z64))), (q_24, .inl (cJ, 31, .inr (.inl rk_z64))), (q_33, .inl (cJ, 3721, .inr (.inl rk_z64)))] := hD
  refine lv_aload_n hx hb dX10_init_38 rfl (lv_at hl 0 rfl) ?_
  refine lv_sipush (v := 1722) hx hb dX10_init_39 (by decide) ?_
  refine rk_newJ (N := 1722) hx hb (htc _ w_1_84) hV hP hD hS hA rfl (by decide) (by decide) (Nat.le_of_ble_eq_true rfl) (Nat.le_of_ble_eq_true rfl) (Nat.le_of_ble_eq_true rfl) dX10_init_42 (fun q_42 H hP hD hS => ?_)
  have hP : va_P D vwCl [(a_this, .inr (9, [.ref q_8, .ref q_16, .ref q_24, .ref q_33, .null, .int 0, .null, .null, .null, .null, .null, .null, .null, .int 0, .null, .null, .null])), (q_8, .inl (cJ, 3721, .inr (.inl rk_z64))), (q_16, .inl (cJ, 21, .inr (.inl rk_z64))), (q_24, .inl (cJ, 31, .inr (.inl rk_z64))), (q_33, .inl (cJ, 3721, .inr (.inl rk_z64))), (q_42, .inl (cJ, 1722, .inr (.inl rk_z64)))] H := hP
  have hD : va_D A [(a_this, .inr (9, [.ref q_8, .ref q_16, .ref q_24, .ref q_33, .null, .int 0, .null, .null, .null, .null, .null, .null, .null, .int 0, .null, .null, .null])), (q_8, .inl (cJ, 3721, .inr (.inl rk_z64))), (q_16, .inl (cJ, 21, .inr (.inl rk_z64))), (q_24, .inl (cJ, 31, .inr (.inl rk_z64))), (q_33, .inl (cJ, 3721, .inr (.inl rk_z64))), (q_42, .inl (cJ, 1722, .inr (.inl rk_z64)))] := hD
  refine va_putF (D := D) (ci := 9) (v := .ref q_42) (ty := (.array .long)) (C := RX10) (T := TX10) (N := 17) hx hb htc inX10 tyX10 tyX10_ok nmX10 hown hV.1 hP hD hS 0 rfl rfl 4 (by decide) (htc _ w_4_2) (fun _ h9 => h9) rfl hname rfl (by decide +kernel) rfl rfl (Nat.le_of_ble_eq_true rfl) dX10_init_44 (fun H locs hP hD hS => ?_)
  have hP : va_P D vwCl [(a_this, .inr (9, [.ref q_8, .ref q_16, .ref q_24, .ref q_33, .ref q_42, .int 0, .null, .null, .null, .null, .null, .null, .null, .int 0, .null, .null, .null])), (q_8, .inl (cJ, 3721, .inr (.inl rk_z64))), (q_16, .inl (cJ, 21, .inr (.inl rk_z64))), (q_24, .inl (cJ, 31, .inr (.inl rk_z64))), (q_33, .inl (cJ, 3721, .inr (.inl rk_z64))), (q_42, .inl (cJ, 1722, .inr (.inl rk_z64)))] H := hP
  have hD : va_D A [(a_this, .inr (9, [.ref q_8, .ref q_16, .ref q_24, .ref q_33, .ref q_42, .int 0, .null, .null, .null, .null, .null, .null, .null, .int 0, .null, .null, .null])), (q_8, .inl (cJ, 3721, .inr (.inl rk_z64))), (q_16, .inl (cJ, 21, .inr (.inl rk_z64))), (q_24, .inl (cJ, 31, .inr (.inl rk_z64))), (q_33, .inl (cJ, 3721, .inr (.inl rk_z64))), (q_42, .inl (cJ, 1722, .inr (.inl rk_z64)))] := hD
  refine lv_aload_n hx hb dX10_init_47 rfl (lv_at hl 0 rfl) ?_
  refine lv_iconst (v := 4) hx hb dX10_init_48 (by decide) ?_
  refine rk_newI (N := 4) hx hb (htc _ w_1_83) hV hP hD hS hA rfl (by decide) (by decide) (Nat.le_of_ble_eq_true rfl) (Nat.le_of_ble_eq_true rfl) (Nat.le_of_ble_eq_true rfl) dX10_init_49 (fun q_49 H hP hD hS => ?_)
  have hP : va_P D vwCl [(a_this, .inr (9, [.ref q_8, .ref q_16, .ref q_24, .ref q_33, .ref q_42, .int 0, .null, .null, .null, .null, .null, .null, .null, .int 0, .null, .null, .null])), (q_8, .inl (cJ, 3721, .inr (.inl rk_z64))), (q_16, .inl (cJ, 21, .inr (.inl rk_z64))), (q_24, .inl (cJ, 31, .inr (.inl rk_z64))), (q_33, .inl (cJ, 3721, .inr (.inl rk_z64))), (q_42, .inl (cJ, 1722, .inr (.inl rk_z64))), (q_49, .inl (cI, 4, .inl rk_z32))] H := hP
  have hD : va_D A [(a_this, .inr (9, [.ref q_8, .ref q_16, .ref q_24, .ref q_33, .ref q_42, .int 0, .null, .null, .null, .null, .null, .null, .null, .int 0, .null, .null, .null])), (q_8, .inl (cJ, 3721, .inr (.inl rk_z64))), (q_16, .inl (cJ, 21, .inr (.inl rk_z64))), (q_24, .inl (cJ, 31, .inr (.inl rk_z64))), (q_33, .inl (cJ, 3721, .inr (.inl rk_z64))), (q_42, .inl (cJ, 1722, .inr (.inl rk_z64))), (q_49, .inl (cI, 4, .inl rk_z32))] := hD
  refine va_putF (D := D) (ci := 9) (v := .ref q_49) (ty := (.array .int)) (C := RX10) (T := TX10) (N := 17) hx hb htc inX10 tyX10 tyX10_ok nmX10 hown hV.1 hP hD hS 0 rfl rfl 6 (by decide) (htc _ w_4_4) (fun _ h9 => h9) rfl hname rfl (by decide +kernel) rfl rfl (Nat.le_of_ble_eq_true rfl) dX10_init_51 (fun H locs hP hD hS => ?_)
  have hP : va_P D vwCl [(a_this, .inr (9, [.ref q_8, .ref q_16, .ref q_24, .ref q_33, .ref q_42, .int 0, .ref q_49, .null, .null, .null, .null, .null, .null, .int 0, .null, .null, .null])), (q_8, .inl (cJ, 3721, .inr (.inl rk_z64))), (q_16, .inl (cJ, 21, .inr (.inl rk_z64))), (q_24, .inl (cJ, 31, .inr (.inl rk_z64))), (q_33, .inl (cJ, 3721, .inr (.inl rk_z64))), (q_42, .inl (cJ, 1722, .inr (.inl rk_z64))), (q_49, .inl (cI, 4, .inl rk_z32))] H := hP
  have hD : va_D A [(a_this, .inr (9, [.ref q_8, .ref q_16, .ref q_24, .ref q_33, .ref q_42, .int 0, .ref q_49, .null, .null, .null, .null, .null, .null, .int 0, .null, .null, .null])), (q_8, .inl (cJ, 3721, .inr (.inl rk_z64))), (q_16, .inl (cJ, 21, .inr (.inl rk_z64))), (q_24, .inl (cJ, 31, .inr (.inl rk_z64))), (q_33, .inl (cJ, 3721, .inr (.inl rk_z64))), (q_42, .inl (cJ, 1722, .inr (.inl rk_z64))), (q_49, .inl (cI, 4, .inl rk_z32))] := hD
  refine lv_aload_n hx hb dX10_init_54 rfl (lv_at hl 0 rfl) ?_
  refine lv_bipush (v := 60) hx hb dX10_init_55 (by decide) ?_
  refine rk_newI (N := 60) hx hb (htc _ w_1_83) hV hP hD hS hA rfl (by decide) (by decide) (Nat.le_of_ble_eq_true rfl) (Nat.le_of_ble_eq_true rfl) (Nat.le_of_ble_eq_true rfl) dX10_init_57 (fun q_57 H hP hD hS => ?_)
  have hP : va_P D vwCl [(a_this, .inr (9, [.ref q_8, .ref q_16, .ref q_24, .ref q_33, .ref q_42, .int 0, .ref q_49, .null, .null, .null, .null, .null, .null, .int 0, .null, .null, .null])), (q_8, .inl (cJ, 3721, .inr (.inl rk_z64))), (q_16, .inl (cJ, 21, .inr (.inl rk_z64))), (q_24, .inl (cJ, 31, .inr (.inl rk_z64))), (q_33, .inl (cJ, 3721, .inr (.inl rk_z64))), (q_42, .inl (cJ, 1722, .inr (.inl rk_z64))), (q_49, .inl (cI, 4, .inl rk_z32)), (q_57, .inl (cI, 60, .inl rk_z32))] H := hP
  have hD : va_D A [(a_this, .inr (9, [.ref q_8, .ref q_16, .ref q_24, .ref q_33, .ref q_42, .int 0, .ref q_49, .null, .null, .null, .null, .null, .null, .int 0, .null, .null, .null])), (q_8, .inl (cJ, 3721, .inr (.inl rk_z64))), (q_16, .inl (cJ, 21, .inr (.inl rk_z64))), (q_24, .inl (cJ, 31, .inr (.inl rk_z64))), (q_33, .inl (cJ, 3721, .inr (.inl rk_z64))), (q_42, .inl (cJ, 1722, .inr (.inl rk_z64))), (q_49, .inl (cI, 4, .inl rk_z32)), (q_57, .inl (cI, 60, .inl rk_z32))] := hD
  refine va_putF (D := D) (ci := 9) (v := .ref q_57) (ty := (.array .int)) (C := RX10) (T := TX10) (N := 17) hx hb htc inX10 tyX10 tyX10_ok nmX10 hown hV.1 hP hD hS 0 rfl rfl 7 (by decide) (htc _ w_4_5) (fun _ h9 => h9) rfl hname rfl (by decide +kernel) rfl rfl (Nat.le_of_ble_eq_true rfl) dX10_init_59 (fun H locs hP hD hS => ?_)
  have hP : va_P D vwCl [(a_this, .inr (9, [.ref q_8, .ref q_16, .ref q_24, .ref q_33, .ref q_42, .int 0, .ref q_49, .ref q_57, .null, .null, .null, .null, .null, .int 0, .null, .null, .null])), (q_8, .inl (cJ, 3721, .inr (.inl rk_z64))), (q_16, .inl (cJ, 21, .inr (.inl rk_z64))), (q_24, .inl (cJ, 31, .inr (.inl rk_z64))), (q_33, .inl (cJ, 3721, .inr (.inl rk_z64))), (q_42, .inl (cJ, 1722, .inr (.inl rk_z64))), (q_49, .inl (cI, 4, .inl rk_z32)), (q_57, .inl (cI, 60, .inl rk_z32))] H := hP
  have hD : va_D A [(a_this, .inr (9, [.ref q_8, .ref q_16, .ref q_24, .ref q_33, .ref q_42, .int 0, .ref q_49, .ref q_57, .null, .null, .null, .null, .null, .int 0, .null, .null, .null])), (q_8, .inl (cJ, 3721, .inr (.inl rk_z64))), (q_16, .inl (cJ, 21, .inr (.inl rk_z64))), (q_24, .inl (cJ, 31, .inr (.inl rk_z64))), (q_33, .inl (cJ, 3721, .inr (.inl rk_z64))), (q_42, .inl (cJ, 1722, .inr (.inl rk_z64))), (q_49, .inl (cI, 4, .inl rk_z32)), (q_57, .inl (cI, 60, .inl rk_z32))] := hD
  refine lv_aload_n hx hb dX10_init_62 rfl (lv_at hl 0 rfl) ?_
  refine lv_bipush (v := 60) hx hb dX10_init_63 (by decide) ?_
  refine rk_newI (N := 60) hx hb (htc _ w_1_83) hV hP hD hS hA rfl (by decide) (by decide) (Nat.le_of_ble_eq_true rfl) (Nat.le_of_ble_eq_true rfl) (Nat.le_of_ble_eq_true rfl) dX10_init_65 (fun q_65 H hP hD hS => ?_)
  have hP : va_P D vwCl [(a_this, .inr (9, [.ref q_8, .ref q_16, .ref q_24, .ref q_33, .ref q_42, .int 0, .ref q_49, .ref q_57, .null, .null, .null, .null, .null, .int 0, .null, .null, .null])), (q_8, .inl (cJ, 3721, .inr (.inl rk_z64))), (q_16, .inl (cJ, 21, .inr (.inl rk_z64))), (q_24, .inl (cJ, 31, .inr (.inl rk_z64))), (q_33, .inl (cJ, 3721, .inr (.inl rk_z64))), (q_42, .inl (cJ, 1722, .inr (.inl rk_z64))), (q_49, .inl (cI, 4, .inl rk_z32)), (q_57, .inl (cI, 60, .inl rk_z32)), (q_65, .inl (cI, 60, .inl rk_z32))] H := hP
  have hD : va_D A [(a_this, .inr (9, [.ref q_8, .ref q_16, .ref q_24, .ref q_33, .ref q_42, .int 0, .ref q_49, .ref q_57, .null, .null, .null, .null, .null, .int 0, .null, .null, .null])), (q_8, .inl (cJ, 3721, .inr (.inl rk_z64))), (q_16, .inl (cJ, 21, .inr (.inl rk_z64))), (q_24, .inl (cJ, 31, .inr (.inl rk_z64))), (q_33, .inl (cJ, 3721, .inr (.inl rk_z64))), (q_42, .inl (cJ, 1722, .inr (.inl rk_z64))), (q_49, .inl (cI, 4, .inl rk_z32)), (q_57, .inl (cI, 60, .inl rk_z32)), (q_65, .inl (cI, 60, .inl rk_z32))] := hD
  refine va_putF (D := D) (ci := 9) (v := .ref q_65) (ty := (.array .int)) (C := RX10) (T := TX10) (N := 17) hx hb htc inX10 tyX10 tyX10_ok nmX10 hown hV.1 hP hD hS 0 rfl rfl 8 (by decide) (htc _ w_4_6) (fun _ h9 => h9) rfl hname rfl (by decide +kernel) rfl rfl (Nat.le_of_ble_eq_true rfl) dX10_init_67 (fun H locs hP hD hS => ?_)
  have hP : va_P D vwCl [(a_this, .inr (9, [.ref q_8, .ref q_16, .ref q_24, .ref q_33, .ref q_42, .int 0, .ref q_49, .ref q_57, .ref q_65, .null, .null, .null, .null, .int 0, .null, .null, .null])), (q_8, .inl (cJ, 3721, .inr (.inl rk_z64))), (q_16, .inl (cJ, 21, .inr (.inl rk_z64))), (q_24, .inl (cJ, 31, .inr (.inl rk_z64))), (q_33, .inl (cJ, 3721, .inr (.inl rk_z64))), (q_42, .inl (cJ, 1722, .inr (.inl rk_z64))), (q_49, .inl (cI, 4, .inl rk_z32)), (q_57, .inl (cI, 60, .inl rk_z32)), (q_65, .inl (cI, 60, .inl rk_z32))] H := hP
  have hD : va_D A [(a_this, .inr (9, [.ref q_8, .ref q_16, .ref q_24, .ref q_33, .ref q_42, .int 0, .ref q_49, .ref q_57, .ref q_65, .null, .null, .null, .null, .int 0, .null, .null, .null])), (q_8, .inl (cJ, 3721, .inr (.inl rk_z64))), (q_16, .inl (cJ, 21, .inr (.inl rk_z64))), (q_24, .inl (cJ, 31, .inr (.inl rk_z64))), (q_33, .inl (cJ, 3721, .inr (.inl rk_z64))), (q_42, .inl (cJ, 1722, .inr (.inl rk_z64))), (q_49, .inl (cI, 4, .inl rk_z32)), (q_57, .inl (cI, 60, .inl rk_z32)), (q_65, .inl (cI, 60, .inl rk_z32))] := hD
  refine lv_aload_n hx hb dX10_init_70 rfl (lv_at hl 0 rfl) ?_
  refine lv_bipush (v := 64) hx hb dX10_init_71 (by decide) ?_
  refine rk_newI (N := 64) hx hb (htc _ w_1_83) hV hP hD hS hA rfl (by decide) (by decide) (Nat.le_of_ble_eq_true rfl) (Nat.le_of_ble_eq_true rfl) (Nat.le_of_ble_eq_true rfl) dX10_init_73 (fun q_73 H hP hD hS => ?_)
  have hP : va_P D vwCl [(a_this, .inr (9, [.ref q_8, .ref q_16, .ref q_24, .ref q_33, .ref q_42, .int 0, .ref q_49, .ref q_57, .ref q_65, .null, .null, .null, .null, .int 0, .null, .null, .null])), (q_8, .inl (cJ, 3721, .inr (.inl rk_z64))), (q_16, .inl (cJ, 21, .inr (.inl rk_z64))), (q_24, .inl (cJ, 31, .inr (.inl rk_z64))), (q_33, .inl (cJ, 3721, .inr (.inl rk_z64))), (q_42, .inl (cJ, 1722, .inr (.inl rk_z64))), (q_49, .inl (cI, 4, .inl rk_z32)), (q_57, .inl (cI, 60, .inl rk_z32)), (q_65, .inl (cI, 60, .inl rk_z32)), (q_73, .inl (cI, 64, .inl rk_z32))] H := hP
  have hD : va_D A [(a_this, .inr (9, [.ref q_8, .ref q_16, .ref q_24, .ref q_33, .ref q_42, .int 0, .ref q_49, .ref q_57, .ref q_65, .null, .null, .null, .null, .int 0, .null, .null, .null])), (q_8, .inl (cJ, 3721, .inr (.inl rk_z64))), (q_16, .inl (cJ, 21, .inr (.inl rk_z64))), (q_24, .inl (cJ, 31, .inr (.inl rk_z64))), (q_33, .inl (cJ, 3721, .inr (.inl rk_z64))), (q_42, .inl (cJ, 1722, .inr (.inl rk_z64))), (q_49, .inl (cI, 4, .inl rk_z32)), (q_57, .inl (cI, 60, .inl rk_z32)), (q_65, .inl (cI, 60, .inl rk_z32)), (q_73, .inl (cI, 64, .inl rk_z32))] := hD
  refine va_putF (D := D) (ci := 9) (v := .ref q_73) (ty := (.array .int)) (C := RX10) (T := TX10) (N := 17) hx hb htc inX10 tyX10 tyX10_ok nmX10 hown hV.1 hP hD hS 0 rfl rfl 9 (by decide) (htc _ w_4_7) (fun _ h9 => h9) rfl hname rfl (by decide +kernel) rfl rfl (Nat.le_of_ble_eq_true rfl) dX10_init_75 (fun H locs hP hD hS => ?_)
  have hP : va_P D vwCl [(a_this, .inr (9, [.ref q_8, .ref q_16, .ref q_24, .ref q_33, .ref q_42, .int 0, .ref q_49, .ref q_57, .ref q_65, .ref q_73, .null, .null, .null, .int 0, .null, .null, .null])), (q_8, .inl (cJ, 3721, .inr (.inl rk_z64))), (q_16, .inl (cJ, 21, .inr (.inl rk_z64))), (q_24, .inl (cJ, 31, .inr (.inl rk_z64))), (q_33, .inl (cJ, 3721, .inr (.inl rk_z64))), (q_42, .inl (cJ, 1722, .inr (.inl rk_z64))), (q_49, .inl (cI, 4, .inl rk_z32)), (q_57, .inl (cI, 60, .inl rk_z32)), (q_65, .inl (cI, 60, .inl rk_z32)), (q_73, .inl (cI, 64, .inl rk_z32))] H := hP
  have hD : va_D A [(a_this, .inr (9, [.ref q_8, .ref q_16, .ref q_24, .ref q_33, .ref q_42, .int 0, .ref q_49, .ref q_57, .ref q_65, .ref q_73, .null, .null, .null, .int 0, .null, .null, .null])), (q_8, .inl (cJ, 3721, .inr (.inl rk_z64))), (q_16, .inl (cJ, 21, .inr (.inl rk_z64))), (q_24, .inl (cJ, 31, .inr (.inl rk_z64))), (q_33, .inl (cJ, 3721, .inr (.inl rk_z64))), (q_42, .inl (cJ, 1722, .inr (.inl rk_z64))), (q_49, .inl (cI, 4, .inl rk_z32)), (q_57, .inl (cI, 60, .inl rk_z32)), (q_65, .inl (cI, 60, .inl rk_z32)), (q_73, .inl (cI, 64, .inl rk_z32))] := hD
  refine lv_aload_n hx hb dX10_init_78 rfl (lv_at hl 0 rfl) ?_
  refine lv_bipush (v := 64) hx hb dX10_init_79 (by decide) ?_
  refine rk_newI (N := 64) hx hb (htc _ w_1_83) hV hP hD hS hA rfl (by decide) (by decide) (Nat.le_of_ble_eq_true rfl) (Nat.le_of_ble_eq_true rfl) (Nat.le_of_ble_eq_true rfl) dX10_init_81 (fun q_81 H hP hD hS => ?_)
  have hP : va_P D vwCl [(a_this, .inr (9, [.ref q_8, .ref q_16, .ref q_24, .ref q_33, .ref q_42, .int 0, .ref q_49, .ref q_57, .ref q_65, .ref q_73, .null, .null, .null, .int 0, .null, .null, .null])), (q_8, .inl (cJ, 3721, .inr (.inl rk_z64))), (q_16, .inl (cJ, 21, .inr (.inl rk_z64))), (q_24, .inl (cJ, 31, .inr (.inl rk_z64))), (q_33, .inl (cJ, 3721, .inr (.inl rk_z64))), (q_42, .inl (cJ, 1722, .inr (.inl rk_z64))), (q_49, .inl (cI, 4, .inl rk_z32)), (q_57, .inl (cI, 60, .inl rk_z32)), (q_65, .inl (cI, 60, .inl rk_z32)), (q_73, .inl (cI, 64, .inl rk_z32)), (q_81, .inl (cI, 64, .inl rk_z32))] H := hP
  have hD : va_D A [(a_this, .inr (9, [.ref q_8, .ref q_16, .ref q_24, .ref q_33, .ref q_42, .int 0, .ref q_49, .ref q_57, .ref q_65, .ref q_73, .null, .null, .null, .int 0, .null, .null, .null])), (q_8, .inl (cJ, 3721, .inr (.inl rk_z64))), (q_16, .inl (cJ, 21, .inr (.inl rk_z64))), (q_24, .inl (cJ, 31, .inr (.inl rk_z64))), (q_33, .inl (cJ, 3721, .inr (.inl rk_z64))), (q_42, .inl (cJ, 1722, .inr (.inl rk_z64))), (q_49, .inl (cI, 4, .inl rk_z32)), (q_57, .inl (cI, 60, .inl rk_z32)), (q_65, .inl (cI, 60, .inl rk_z32)), (q_73, .inl (cI, 64, .inl rk_z32)), (q_81, .inl (cI, 64, .inl rk_z32))] := hD
  refine va_putF (D := D) (ci := 9) (v := .ref q_81) (ty := (.array .int)) (C := RX10) (T := TX10) (N := 17) hx hb htc inX10 tyX10 tyX10_ok nmX10 hown hV.1 hP hD hS 0 rfl rfl 10 (by decide) (htc _ w_4_8) (fun _ h9 => h9) rfl hname rfl (by decide +kernel) rfl rfl (Nat.le_of_ble_eq_true rfl) dX10_init_83 (fun H locs hP hD hS => ?_)
  have hP : va_P D vwCl [(a_this, .inr (9, [.ref q_8, .ref q_16, .ref q_24, .ref q_33, .ref q_42, .int 0, .ref q_49, .ref q_57, .ref q_65, .ref q_73, .ref q_81, .null, .null, .int 0, .null, .null, .null])), (q_8, .inl (cJ, 3721, .inr (.inl rk_z64))), (q_16, .inl (cJ, 21, .inr (.inl rk_z64))), (q_24, .inl (cJ, 31, .inr (.inl rk_z64))), (q_33, .inl (cJ, 3721, .inr (.inl rk_z64))), (q_42, .inl (cJ, 1722, .inr (.inl rk_z64))), (q_49, .inl (cI, 4, .inl rk_z32)), (q_57, .inl (cI, 60, .inl rk_z32)), (q_65, .inl (cI, 60, .inl rk_z32)), (q_73, .inl (cI, 64, .inl rk_z32)), (q_81, .inl (cI, 64, .inl rk_z32))] H := hP
  have hD : va_D A [(a_this, .inr (9, [.ref q_8, .ref q_16, .ref q_24, .ref q_33, .ref q_42, .int 0, .ref q_49, .ref q_57, .ref q_65, .ref q_73, .ref q_81, .null, .null, .int 0, .null, .null, .null])), (q_8, .inl (cJ, 3721, .inr (.inl rk_z64))), (q_16, .inl (cJ, 21, .inr (.inl rk_z64))), (q_24, .inl (cJ, 31, .inr (.inl rk_z64))), (q_33, .inl (cJ, 3721, .inr (.inl rk_z64))), (q_42, .inl (cJ, 1722, .inr (.inl rk_z64))), (q_49, .inl (cI, 4, .inl rk_z32)), (q_57, .inl (cI, 60, .inl rk_z32)), (q_65, .inl (cI, 60, .inl rk_z32)), (q_73, .inl (cI, 64, .inl rk_z32)), (q_81, .inl (cI, 64, .inl rk_z32))] := hD
  refine lv_aload_n hx hb dX10_init_86 rfl (lv_at hl 0 rfl) ?_
  refine lv_bipush (v := 64) hx hb dX10_init_87 (by decide) ?_
  refine rk_newJ (N := 64) hx hb (htc _ w_1_84) hV hP hD hS hA rfl (by decide) (by decide) (Nat.le_of_ble_eq_true rfl) (Nat.le_of_ble_eq_true rfl) (Nat.le_of_ble_eq_true rfl) dX10_init_89 (fun q_89 H hP hD hS => ?_)
  have hP : va_P D vwCl [(a_this, .inr (9, [.ref q_8, .ref q_16, .ref q_24, .ref q_33, .ref q_42, .int 0, .ref q_49, .ref q_57, .ref q_65, .ref q_73, .ref q_81, .null, .null, .int 0, .null, .null, .null])), (q_8, .inl (cJ, 3721, .inr (.inl rk_z64))), (q_16, .inl (cJ, 21, .inr (.inl rk_z64))), (q_24, .inl (cJ, 31, .inr (.inl rk_z64))), (q_33, .inl (cJ, 3721, .inr (.inl rk_z64))), (q_42, .inl (cJ, 1722, .inr (.inl rk_z64))), (q_49, .inl (cI, 4, .inl rk_z32)), (q_57, .inl (cI, 60, .inl rk_z32)), (q_65, .inl (cI, 60, .inl rk_z32)), (q_73, .inl (cI, 64, .inl rk_z32)), (q_81, .inl (cI, 64, .inl rk_z32)), (q_89, .inl (cJ, 64, .inr (.inl rk_z64)))] H := hP
  have hD : va_D A [(a_this, .inr (9, [.ref q_8, .ref q_16, .ref q_24, .ref q_33, .ref q_42, .int 0, .ref q_49, .ref q_57, .ref q_65, .ref q_73, .ref q_81, .null, .null, .int 0, .null, .null, .null])), (q_8, .inl (cJ, 3721, .inr (.inl rk_z64))), (q_16, .inl (cJ, 21, .inr (.inl rk_z64))), (q_24, .inl (cJ, 31, .inr (.inl rk_z64))), (q_33, .inl (cJ, 3721, .inr (.inl rk_z64))), (q_42, .inl (cJ, 1722, .inr (.inl rk_z64))), (q_49, .inl (cI, 4, .inl rk_z32)), (q_57, .inl (cI, 60, .inl rk_z32)), (q_65, .inl (cI, 60, .inl rk_z32)), (q_73, .inl (cI, 64, .inl rk_z32)), (q_81, .inl (cI, 64, .inl rk_z32)), (q_89, .inl (cJ, 64, .inr (.inl rk_z64)))] := hD
  refine va_putF (D := D) (ci := 9) (v := .ref q_89) (ty := (.array .long)) (C := RX10) (T := TX10) (N := 17) hx hb htc inX10 tyX10 tyX10_ok nmX10 hown hV.1 hP hD hS 0 rfl rfl 11 (by decide) (htc _ w_4_9) (fun _ h9 => h9) rfl hname rfl (by decide +kernel) rfl rfl (Nat.le_of_ble_eq_true rfl) dX10_init_91 (fun H locs hP hD hS => ?_)
  have hP : va_P D vwCl [(a_this, .inr (9, [.ref q_8, .ref q_16, .ref q_24, .ref q_33, .ref q_42, .int 0, .ref q_49, .ref q_57, .ref q_65, .ref q_73, .ref q_81, .ref q_89, .null, .int 0, .null, .null, .null])), (q_8, .inl (cJ, 3721, .inr (.inl rk_z64))), (q_16, .inl (cJ, 21, .inr (.inl rk_z64))), (q_24, .inl (cJ, 31, .inr (.inl rk_z64))), (q_33, .inl (cJ, 3721, .inr (.inl rk_z64))), (q_42, .inl (cJ, 1722, .inr (.inl rk_z64))), (q_49, .inl (cI, 4, .inl rk_z32)), (q_57, .inl (cI, 60, .inl rk_z32)), (q_65, .inl (cI, 60, .inl rk_z32)), (q_73, .inl (cI, 64, .inl rk_z32)), (q_81, .inl (cI, 64, .inl rk_z32)), (q_89, .inl (cJ, 64, .inr (.inl rk_z64)))] H := hP
  have hD : va_D A [(a_this, .inr (9, [.ref q_8, .ref q_16, .ref q_24, .ref q_33, .ref q_42, .int 0, .ref q_49, .ref q_57, .ref q_65, .ref q_73, .ref q_81, .ref q_89, .null, .int 0, .null, .null, .null])), (q_8, .inl (cJ, 3721, .inr (.inl rk_z64))), (q_16, .inl (cJ, 21, .inr (.inl rk_z64))), (q_24, .inl (cJ, 31, .inr (.inl rk_z64))), (q_33, .inl (cJ, 3721, .inr (.inl rk_z64))), (q_42, .inl (cJ, 1722, .inr (.inl rk_z64))), (q_49, .inl (cI, 4, .inl rk_z32)), (q_57, .inl (cI, 60, .inl rk_z32)), (q_65, .inl (cI, 60, .inl rk_z32)), (q_73, .inl (cI, 64, .inl rk_z32)), (q_81, .inl (cI, 64, .inl rk_z32)), (q_89, .inl (cJ, 64, .inr (.inl rk_z64)))] := hD
  refine lv_aload_n hx hb dX10_init_94 rfl (lv_at hl 0 rfl) ?_
  refine lv_iconst (v := 4) hx hb dX10_init_95 (by decide) ?_
  refine rk_newI (N := 4) hx hb (htc _ w_1_83) hV hP hD hS hA rfl (by decide) (by decide) (Nat.le_of_ble_eq_true rfl) (Nat.le_of_ble_eq_true rfl) (Nat.le_of_ble_eq_true rfl) dX10_init_96 (fun q_96 H hP hD hS => ?_)
  have hP : va_P D vwCl [(a_this, .inr (9, [.ref q_8, .ref q_16, .ref q_24, .ref q_33, .ref q_42, .int 0, .ref q_49, .ref q_57, .ref q_65, .ref q_73, .ref q_81, .ref q_89, .null, .int 0, .null, .null, .null])), (q_8, .inl (cJ, 3721, .inr (.inl rk_z64))), (q_16, .inl (cJ, 21, .inr (.inl rk_z64))), (q_24, .inl (cJ, 31, .inr (.inl rk_z64))), (q_33, .inl (cJ, 3721, .inr (.inl rk_z64))), (q_42, .inl (cJ, 1722, .inr (.inl rk_z64))), (q_49, .inl (cI, 4, .inl rk_z32)), (q_57, .inl (cI, 60, .inl rk_z32)), (q_65, .inl (cI, 60, .inl rk_z32)), (q_73, .inl (cI, 64, .inl rk_z32)), (q_81, .inl (cI, 64, .inl rk_z32)), (q_89, .inl (cJ, 64, .inr (.inl rk_z64))), (q_96, .inl (cI, 4, .inl rk_z32))] H := hP
  have hD : va_D A [(a_this, .inr (9, [.ref q_8, .ref q_16, .ref q_24, .ref q_33, .ref q_42, .int 0, .ref q_49, .ref q_57, .ref q_65, .ref q_73, .ref q_81, .ref q_89, .null, .int 0, .null, .null, .null])), (q_8, .inl (cJ, 3721, .inr (.inl rk_z64))), (q_16, .inl (cJ, 21, .inr (.inl rk_z64))), (q_24, .inl (cJ, 31, .inr (.inl rk_z64))), (q_33, .inl (cJ, 3721, .inr (.inl rk_z64))), (q_42, .inl (cJ, 1722, .inr (.inl rk_z64))), (q_49, .inl (cI, 4, .inl rk_z32)), (q_57, .inl (cI, 60, .inl rk_z32)), (q_65, .inl (cI, 60, .inl rk_z32)), (q_73, .inl (cI, 64, .inl rk_z32)), (q_81, .inl (cI, 64, .inl rk_z32)), (q_89, .inl (cJ, 64, .inr (.inl rk_z64))), (q_96, .inl (cI, 4, .inl rk_z32))] := hD
  refine va_putF (D := D) (ci := 9) (v := .ref q_96) (ty := (.array .int)) (C := RX10) (T := TX10) (N := 17) hx hb htc inX10 tyX10 tyX10_ok nmX10 hown hV.1 hP hD hS 0 rfl rfl 12 (by decide) (htc _ w_4_10) (fun _ h9 => h9) rfl hname rfl (by decide +kernel) rfl rfl (Nat.le_of_ble_eq_true rfl) dX10_init_98 (fun H locs hP hD hS => ?_)
  have hP : va_P D vwCl [(a_this, .inr (9, [.ref q_8, .ref q_16, .ref q_24, .ref q_33, .ref q_42, .int 0, .ref q_49, .ref q_57, .ref q_65, .ref q_73, .ref q_81, .ref q_89, .ref q_96, .int 0, .null, .null, .null])), (q_8, .inl (cJ, 3721, .inr (.inl rk_z64))), (q_16, .inl (cJ, 21, .inr (.inl rk_z64))), (q_24, .inl (cJ, 31, .inr (.inl rk_z64))), (q_33, .inl (cJ, 3721, .inr (.inl rk_z64))), (q_42, .inl (cJ, 1722, .inr (.inl rk_z64))), (q_49, .inl (cI, 4, .inl rk_z32)), (q_57, .inl (cI, 60, .inl rk_z32)), (q_65, .inl (cI, 60, .inl rk_z32)), (q_73, .inl (cI, 64, .inl rk_z32)), (q_81, .inl (cI, 64, .inl rk_z32)), (q_89, .inl (cJ, 64, .inr (.inl rk_z64))), (q_96, .inl (cI, 4, .inl rk_z32))] H := hP
  have hD : va_D A [(a_this, .inr (9, [.ref q_8, .ref q_16, .ref q_24, .ref q_33, .ref q_42, .int 0, .ref q_49, .ref q_57, .ref q_65, .ref q_73, .ref q_81, .ref q_89, .ref q_96, .int 0, .null, .null, .null])), (q_8, .inl (cJ, 3721, .inr (.inl rk_z64))), (q_16, .inl (cJ, 21, .inr (.inl rk_z64))), (q_24, .inl (cJ, 31, .inr (.inl rk_z64))), (q_33, .inl (cJ, 3721, .inr (.inl rk_z64))), (q_42, .inl (cJ, 1722, .inr (.inl rk_z64))), (q_49, .inl (cI, 4, .inl rk_z32)), (q_57, .inl (cI, 60, .inl rk_z32)), (q_65, .inl (cI, 60, .inl rk_z32)), (q_73, .inl (cI, 64, .inl rk_z32)), (q_81, .inl (cI, 64, .inl rk_z32)), (q_89, .inl (cJ, 64, .inr (.inl rk_z64))), (q_96, .inl (cI, 4, .inl rk_z32))] := hD
  refine lv_aload_n hx hb dX10_init_101 rfl (lv_at hl 0 rfl) ?_
  refine lv_bipush (v := 10) hx hb dX10_init_102 (by decide) ?_
  refine rk_newI (N := 10) hx hb (htc _ w_1_83) hV hP hD hS hA rfl (by decide) (by decide) (Nat.le_of_ble_eq_true rfl) (Nat.le_of_ble_eq_true rfl) (Nat.le_of_ble_eq_true rfl) dX10_init_104 (fun q_104 H hP hD hS => ?_)
  have hP : va_P D vwCl [(a_this, .inr (9, [.ref q_8, .ref q_16, .ref q_24, .ref q_33, .ref q_42, .int 0, .ref q_49, .ref q_57, .ref q_65, .ref q_73, .ref q_81, .ref q_89, .ref q_96, .int 0, .null, .null, .null])), (q_8, .inl (cJ, 3721, .inr (.inl rk_z64))), (q_16, .inl (cJ, 21, .inr (.inl rk_z64))), (q_24, .inl (cJ, 31, .inr (.inl rk_z64))), (q_33, .inl (cJ, 3721, .inr (.inl rk_z64))), (q_42, .inl (cJ, 1722, .inr (.inl rk_z64))), (q_49, .inl (cI, 4, .inl rk_z32)), (q_57, .inl (cI, 60, .inl rk_z32)), (q_65, .inl (cI, 60, .inl rk_z32)), (q_73, .inl (cI, 64, .inl rk_z32)), (q_81, .inl (cI, 64, .inl rk_z32)), (q_89, .inl (cJ, 64, .inr (.inl rk_z64))), (q_96, .inl (cI, 4, .inl rk_z32)), (q_104, .inl (cI, 10, .inl rk_z32))] H := hP
  have hD : va_D A [(a_this, .inr (9, [.ref q_8, .ref q_16, .ref q_24, .ref q_33, .ref q_42, .int 0, .ref q_49, .ref q_57, .ref q_65, .ref q_73, .ref q_81, .ref q_89, .ref q_96, .int 0, .null, .null, .null])), (q_8, .inl (cJ, 3721, .inr (.inl rk_z64))), (q_16, .inl (cJ, 21, .inr (.inl rk_z64))), (q_24, .inl (cJ, 31, .inr (.inl rk_z64))), (q_33, .inl (cJ, 3721, .inr (.inl rk_z64))), (q_42, .inl (cJ, 1722, .inr (.inl rk_z64))), (q_49, .inl (cI, 4, .inl rk_z32)), (q_57, .inl (cI, 60, .inl rk_z32)), (q_65, .inl (cI, 60, .inl rk_z32)), (q_73, .inl (cI, 64, .inl rk_z32)), (q_81, .inl (cI, 64, .inl rk_z32)), (q_89, .inl (cJ, 64, .inr (.inl rk_z64))), (q_96, .inl (cI, 4, .inl rk_z32)), (q_104, .inl (cI, 10, .inl rk_z32))] := hD
  refine va_putF (D := D) (ci := 9) (v := .ref q_104) (ty := (.array .int)) (C := RX10) (T := TX10) (N := 17) hx hb htc inX10 tyX10 tyX10_ok nmX10 hown hV.1 hP hD hS 0 rfl rfl 14 (by decide) (htc _ w_4_12) (fun _ h9 => h9) rfl hname rfl (by decide +kernel) rfl rfl (Nat.le_of_ble_eq_true rfl) dX10_init_106 (fun H locs hP hD hS => ?_)
  have hP : va_P D vwCl [(a_this, .inr (9, [.ref q_8, .ref q_16, .ref q_24, .ref q_33, .ref q_42, .int 0, .ref q_49, .ref q_57, .ref q_65, .ref q_73, .ref q_81, .ref q_89, .ref q_96, .int 0, .ref q_104, .null, .null])), (q_8, .inl (cJ, 3721, .inr (.inl rk_z64))), (q_16, .inl (cJ, 21, .inr (.inl rk_z64))), (q_24, .inl (cJ, 31, .inr (.inl rk_z64))), (q_33, .inl (cJ, 3721, .inr (.inl rk_z64))), (q_42, .inl (cJ, 1722, .inr (.inl rk_z64))), (q_49, .inl (cI, 4, .inl rk_z32)), (q_57, .inl (cI, 60, .inl rk_z32)), (q_65, .inl (cI, 60, .inl rk_z32)), (q_73, .inl (cI, 64, .inl rk_z32)), (q_81, .inl (cI, 64, .inl rk_z32)), (q_89, .inl (cJ, 64, .inr (.inl rk_z64))), (q_96, .inl (cI, 4, .inl rk_z32)), (q_104, .inl (cI, 10, .inl rk_z32))] H := hP
  have hD : va_D A [(a_this, .inr (9, [.ref q_8, .ref q_16, .ref q_24, .ref q_33, .ref q_42, .int 0, .ref q_49, .ref q_57, .ref q_65, .ref q_73, .ref q_81, .ref q_89, .ref q_96, .int 0, .ref q_104, .null, .null])), (q_8, .inl (cJ, 3721, .inr (.inl rk_z64))), (q_16, .inl (cJ, 21, .inr (.inl rk_z64))), (q_24, .inl (cJ, 31, .inr (.inl rk_z64))), (q_33, .inl (cJ, 3721, .inr (.inl rk_z64))), (q_42, .inl (cJ, 1722, .inr (.inl rk_z64))), (q_49, .inl (cI, 4, .inl rk_z32)), (q_57, .inl (cI, 60, .inl rk_z32)), (q_65, .inl (cI, 60, .inl rk_z32)), (q_73, .inl (cI, 64, .inl rk_z32)), (q_81, .inl (cI, 64, .inl rk_z32)), (q_89, .inl (cJ, 64, .inr (.inl rk_z64))), (q_96, .inl (cI, 4, .inl rk_z32)), (q_104, .inl (cI, 10, .inl rk_z32))] := hD
  refine lv_aload_n hx hb dX10_init_109 rfl (lv_at hl 0 rfl) ?_
  refine lv_bipush (v := 40) hx hb dX10_init_110 (by decide) ?_
  refine rk_newI (N := 40) hx hb (htc _ w_1_83) hV hP hD hS hA rfl (by decide) (by decide) (Nat.le_of_ble_eq_true rfl) (Nat.le_of_ble_eq_true rfl) (Nat.le_of_ble_eq_true rfl) dX10_init_112 (fun q_112 H hP hD hS => ?_)
  have hP : va_P D vwCl [(a_this, .inr (9, [.ref q_8, .ref q_16, .ref q_24, .ref q_33, .ref q_42, .int 0, .ref q_49, .ref q_57, .ref q_65, .ref q_73, .ref q_81, .ref q_89, .ref q_96, .int 0, .ref q_104, .null, .null])), (q_8, .inl (cJ, 3721, .inr (.inl rk_z64))), (q_16, .inl (cJ, 21, .inr (.inl rk_z64))), (q_24, .inl (cJ, 31, .inr (.inl rk_z64))), (q_33, .inl (cJ, 3721, .inr (.inl rk_z64))), (q_42, .inl (cJ, 1722, .inr (.inl rk_z64))), (q_49, .inl (cI, 4, .inl rk_z32)), (q_57, .inl (cI, 60, .inl rk_z32)), (q_65, .inl (cI, 60, .inl rk_z32)), (q_73, .inl (cI, 64, .inl rk_z32)), (q_81, .inl (cI, 64, .inl rk_z32)), (q_89, .inl (cJ, 64, .inr (.inl rk_z64))), (q_96, .inl (cI, 4, .inl rk_z32)), (q_104, .inl (cI, 10, .inl rk_z32)), (q_112, .inl (cI, 40, .inl rk_z32))] H := hP
  have hD : va_D A [(a_this, .inr (9, [.ref q_8, .ref q_16, .ref q_24, .ref q_33, .ref q_42, .int 0, .ref q_49, .ref q_57, .ref q_65, .ref q_73, .ref q_81, .ref q_89, .ref q_96, .int 0, .ref q_104, .null, .null])), (q_8, .inl (cJ, 3721, .inr (.inl rk_z64))), (q_16, .inl (cJ, 21, .inr (.inl rk_z64))), (q_24, .inl (cJ, 31, .inr (.inl rk_z64))), (q_33, .inl (cJ, 3721, .inr (.inl rk_z64))), (q_42, .inl (cJ, 1722, .inr (.inl rk_z64))), (q_49, .inl (cI, 4, .inl rk_z32)), (q_57, .inl (cI, 60, .inl rk_z32)), (q_65, .inl (cI, 60, .inl rk_z32)), (q_73, .inl (cI, 64, .inl rk_z32)), (q_81, .inl (cI, 64, .inl rk_z32)), (q_89, .inl (cJ, 64, .inr (.inl rk_z64))), (q_96, .inl (cI, 4, .inl rk_z32)), (q_104, .inl (cI, 10, .inl rk_z32)), (q_112, .inl (cI, 40, .inl rk_z32))] := hD
  refine va_putF (D := D) (ci := 9) (v := .ref q_112) (ty := (.array .int)) (C := RX10) (T := TX10) (N := 17) hx hb htc inX10 tyX10 tyX10_ok nmX10 hown hV.1 hP hD hS 0 rfl rfl 15 (by decide) (htc _ w_4_13) (fun _ h9 => h9) rfl hname rfl (by decide +kernel) rfl rfl (Nat.le_of_ble_eq_true rfl) dX10_init_114 (fun H locs hP hD hS => ?_)
  have hP : va_P D vwCl [(a_this, .inr (9, [.ref q_8, .ref q_16, .ref q_24, .ref q_33, .ref q_42, .int 0, .ref q_49, .ref q_57, .ref q_65, .ref q_73, .ref q_81, .ref q_89, .ref q_96, .int 0, .ref q_104, .ref q_112, .null])), (q_8, .inl (cJ, 3721, .inr (.inl rk_z64))), (q_16, .inl (cJ, 21, .inr (.inl rk_z64))), (q_24, .inl (cJ, 31, .inr (.inl rk_z64))), (q_33, .inl (cJ, 3721, .inr (.inl rk_z64))), (q_42, .inl (cJ, 1722, .inr (.inl rk_z64))), (q_49, .inl (cI, 4, .inl rk_z32)), (q_57, .inl (cI, 60, .inl rk_z32)), (q_65, .inl (cI, 60, .inl rk_z32)), (q_73, .inl (cI, 64, .inl rk_z32)), (q_81, .inl (cI, 64, .inl rk_z32)), (q_89, .inl (cJ, 64, .inr (.inl rk_z64))), (q_96, .inl (cI, 4, .inl rk_z32)), (q_104, .inl (cI, 10, .inl rk_z32)), (q_112, .inl (cI, 40, .inl rk_z32))] H := hP
  have hD : va_D A [(a_this, .inr (9, [.ref q_8, .ref q_16, .ref q_24, .ref q_33, .ref q_42, .int 0, .ref q_49, .ref q_57, .ref q_65, .ref q_73, .ref q_81, .ref q_89, .ref q_96, .int 0, .ref q_104, .ref q_112, .null])), (q_8, .inl (cJ, 3721, .inr (.inl rk_z64))), (q_16, .inl (cJ, 21, .inr (.inl rk_z64))), (q_24, .inl (cJ, 31, .inr (.inl rk_z64))), (q_33, .inl (cJ, 3721, .inr (.inl rk_z64))), (q_42, .inl (cJ, 1722, .inr (.inl rk_z64))), (q_49, .inl (cI, 4, .inl rk_z32)), (q_57, .inl (cI, 60, .inl rk_z32)), (q_65, .inl (cI, 60, .inl rk_z32)), (q_73, .inl (cI, 64, .inl rk_z32)), (q_81, .inl (cI, 64, .inl rk_z32)), (q_89, .inl (cJ, 64, .inr (.inl rk_z64))), (q_96, .inl (cI, 4, .inl rk_z32)), (q_104, .inl (cI, 10, .inl rk_z32)), (q_112, .inl (cI, 40, .inl rk_z32))] := hD
  refine lv_aload_n hx hb dX10_init_117 rfl (lv_at hl 0 rfl) ?_
  refine lv_bipush (v := 10) hx hb dX10_init_118 (by decide) ?_
  refine rk_newJ (N := 10) hx hb (htc _ w_1_84) hV hP hD hS hA rfl (by decide) (by decide) (Nat.le_of_ble_eq_true rfl) (Nat.le_of_ble_eq_true rfl) (Nat.le_of_ble_eq_true rfl) dX10_init_120 (fun q_120 H hP hD hS => ?_)
  have hP : va_P D vwCl [(a_this, .inr (9, [.ref q_8, .ref q_16, .ref q_24, .ref q_33, .ref q_42, .int 0, .ref q_49, .ref q_57, .ref q_65, .ref q_73, .ref q_81, .ref q_89, .ref q_96, .int 0, .ref q_104, .ref q_112, .null])), (q_8, .inl (cJ, 3721, .inr (.inl rk_z64))), (q_16, .inl (cJ, 21, .inr (.inl rk_z64))), (q_24, .inl (cJ, 31, .inr (.inl rk_z64))), (q_33, .inl (cJ, 3721, .inr (.inl rk_z64))), (q_42, .inl (cJ, 1722, .inr (.inl rk_z64))), (q_49, .inl (cI, 4, .inl rk_z32)), (q_57, .inl (cI, 60, .inl rk_z32)), (q_65, .inl (cI, 60, .inl rk_z32)), (q_73, .inl (cI, 64, .inl rk_z32)), (q_81, .inl (cI, 64, .inl rk_z32)), (q_89, .inl (cJ, 64, .inr (.inl rk_z64))), (q_96, .inl (cI, 4, .inl rk_z32)), (q_104, .inl (cI, 10, .inl rk_z32)), (q_112, .inl (cI, 40, .inl rk_z32)), (q_120, .inl (cJ, 10, .inr (.inl rk_z64)))] H := hP
  have hD : va_D A [(a_this, .inr (9, [.ref q_8, .ref q_16, .ref q_24, .ref q_33, .ref q_42, .int 0, .ref q_49, .ref q_57, .ref q_65, .ref q_73, .ref q_81, .ref q_89, .ref q_96, .int 0, .ref q_104, .ref q_112, .null])), (q_8, .inl (cJ, 3721, .inr (.inl rk_z64))), (q_16, .inl (cJ, 21, .inr (.inl rk_z64))), (q_24, .inl (cJ, 31, .inr (.inl rk_z64))), (q_33, .inl (cJ, 3721, .inr (.inl rk_z64))), (q_42, .inl (cJ, 1722, .inr (.inl rk_z64))), (q_49, .inl (cI, 4, .inl rk_z32)), (q_57, .inl (cI, 60, .inl rk_z32)), (q_65, .inl (cI, 60, .inl rk_z32)), (q_73, .inl (cI, 64, .inl rk_z32)), (q_81, .inl (cI, 64, .inl rk_z32)), (q_89, .inl (cJ, 64, .inr (.inl rk_z64))), (q_96, .inl (cI, 4, .inl rk_z32)), (q_104, .inl (cI, 10, .inl rk_z32)), (q_112, .inl (cI, 40, .inl rk_z32)), (q_120, .inl (cJ, 10, .inr (.inl rk_z64)))] := hD
  refine va_putF (D := D) (ci := 9) (v := .ref q_120) (ty := (.array .long)) (C := RX10) (T := TX10) (N := 17) hx hb htc inX10 tyX10 tyX10_ok nmX10 hown hV.1 hP hD hS 0 rfl rfl 16 (by decide) (htc _ w_4_14) (fun _ h9 => h9) rfl hname rfl (by decide +kernel) rfl rfl (Nat.le_of_ble_eq_true rfl) dX10_init_122 (fun H locs hP hD hS => ?_)
  have hP : va_P D vwCl [(a_this, .inr (9, [.ref q_8, .ref q_16, .ref q_24, .ref q_33, .ref q_42, .int 0, .ref q_49, .ref q_57, .ref q_65, .ref q_73, .ref q_81, .ref q_89, .ref q_96, .int 0, .ref q_104, .ref q_112, .ref q_120])), (q_8, .inl (cJ, 3721, .inr (.inl rk_z64))), (q_16, .inl (cJ, 21, .inr (.inl rk_z64))), (q_24, .inl (cJ, 31, .inr (.inl rk_z64))), (q_33, .inl (cJ, 3721, .inr (.inl rk_z64))), (q_42, .inl (cJ, 1722, .inr (.inl rk_z64))), (q_49, .inl (cI, 4, .inl rk_z32)), (q_57, .inl (cI, 60, .inl rk_z32)), (q_65, .inl (cI, 60, .inl rk_z32)), (q_73, .inl (cI, 64, .inl rk_z32)), (q_81, .inl (cI, 64, .inl rk_z32)), (q_89, .inl (cJ, 64, .inr (.inl rk_z64))), (q_96, .inl (cI, 4, .inl rk_z32)), (q_104, .inl (cI, 10, .inl rk_z32)), (q_112, .inl (cI, 40, .inl rk_z32)), (q_120, .inl (cJ, 10, .inr (.inl rk_z64)))] H := hP
  have hD : va_D A [(a_this, .inr (9, [.ref q_8, .ref q_16, .ref q_24, .ref q_33, .ref q_42, .int 0, .ref q_49, .ref q_57, .ref q_65, .ref q_73, .ref q_81, .ref q_89, .ref q_96, .int 0, .ref q_104, .ref q_112, .ref q_120])), (q_8, .inl (cJ, 3721, .inr (.inl rk_z64))), (q_16, .inl (cJ, 21, .inr (.inl rk_z64))), (q_24, .inl (cJ, 31, .inr (.inl rk_z64))), (q_33, .inl (cJ, 3721, .inr (.inl rk_z64))), (q_42, .inl (cJ, 1722, .inr (.inl rk_z64))), (q_49, .inl (cI, 4, .inl rk_z32)), (q_57, .inl (cI, 60, .inl rk_z32)), (q_65, .inl (cI, 60, .inl rk_z32)), (q_73, .inl (cI, 64, .inl rk_z32)), (q_81, .inl (cI, 64, .inl rk_z32)), (q_89, .inl (cJ, 64, .inr (.inl rk_z64))), (q_96, .inl (cI, 4, .inl rk_z32)), (q_104, .inl (cI, 10, .inl rk_z32)), (q_112, .inl (cI, 40, .inl rk_z32)), (q_120, .inl (cJ, 10, .inr (.inl rk_z64)))] := hD
  refine lv_iconst (v := 0) hx hb dX10_init_125 (by decide) ?_
  refine lv_istore_n (lv' := [(1, .int (0 : Int32)), (0, .ref a_this)]) hx hb dX10_init_126 rfl hl (by decide) rfl (fun ls hl => ?_)
  have L127 : ∀ (n127 : Nat) (b127_l1 : Int32) (b127_c_new_8 : Nat → Int64), rk_it2 (fX10_init_L127) n127 b127_l1 b127_c_new_8 = some r0 → ∀ (H : Heap) (locs : List Loc), va_P D vwCl [(a_this, .inr (9, [.ref q_8, .ref q_16, .ref q_24, .ref q_33, .ref q_42, .int 0, .ref q_49, .ref q_57, .ref q_65, .ref q_73, .ref q_81, .ref q_89, .ref q_96, .int 0, .ref q_104, .ref q_112, .ref q_120])), (q_8, .inl (cJ, 3721, .inr (.inl b127_c_new_8))), (q_16, .inl (cJ, 21, .inr (.inl rk_z64))), (q_24, .inl (cJ, 31, .inr (.inl rk_z64))), (q_33, .inl (cJ, 3721, .inr (.inl rk_z64))), (q_42, .inl (cJ, 1722, .inr (.inl rk_z64))), (q_49, .inl (cI, 4, .inl rk_z32)), (q_57, .inl (cI, 60, .inl rk_z32)), (q_65, .inl (cI, 60, .inl rk_z32)), (q_73, .inl (cI, 64, .inl rk_z32)), (q_81, .inl (cI, 64, .inl rk_z32)), (q_89, .inl (cJ, 64, .inr (.inl rk_z64))), (q_96, .inl (cI, 4, .inl rk_z32)), (q_104, .inl (cI, 10, .inl rk_z32)), (q_112, .inl (cI, 40, .inl rk_z32)), (q_120, .inl (cJ, 10, .inr (.inl rk_z64)))] H → va_D A [(a_this, .inr (9, [.ref q_8, .ref q_16, .ref q_24, .ref q_33, .ref q_42, .int 0, .ref q_49, .ref q_57, .ref q_65, .ref q_73, .ref q_81, .ref q_89, .ref q_96, .int 0, .ref q_104, .ref q_112, .ref q_120])), (q_8, .inl (cJ, 3721, .inr (.inl b127_c_new_8))), (q_16, .inl (cJ, 21, .inr (.inl rk_z64))), (q_24, .inl (cJ, 31, .inr (.inl rk_z64))), (q_33, .inl (cJ, 3721, .inr (.inl rk_z64))), (q_42, .inl (cJ, 1722, .inr (.inl rk_z64))), (q_49, .inl (cI, 4, .inl rk_z32)), (q_57, .inl (cI, 60, .inl rk_z32)), (q_65, .inl (cI, 60, .inl rk_z32)), (q_73, .inl (cI, 64, .inl rk_z32)), (q_81, .inl (cI, 64, .inl rk_z32)), (q_89, .inl (cJ, 64, .inr (.inl rk_z64))), (q_96, .inl (cI, 4, .inl rk_z32)), (q_104, .inl (cI, 10, .inl rk_z32)), (q_112, .inl (cI, 40, .inl rk_z32)), (q_120, .inl (cJ, 10, .inr (.inl rk_z64)))] → va_S A s.heap H locs → ∀ (ls : Array Slot), lv_has ls 3 [(0, .ref a_this), (1, .int b127_l1)] → W p l e rmX10_init s m args below meth c H locs 15 9596 Q (F0 m 127 ls []) := by
    intro n127
    induction n127 with
    | zero => intro b127_l1 b127_c_new_8 h; exact rk_no h
    | succ n127 ih127 =>
      intro b127_l1 b127_c_new_8 h H locs hP hD hS ls hl
      have h : fX10_init_L127 (rk_it2 (fX10_init_L127) n127) b127_l1 b127_c_new_8 = some r0 := h
      unfold fX10_init_L127 at h
      refine lv_iload_n hx hb dX10_init_127 rfl (lv_at hl 1 rfl) ?_
      refine lv_bipush (v := 61) hx hb dX10_init_128 (by decide) ?_
      refine lv_icmp_ge (tgt := 205) hx hb dX10_init_130 (by decide) (fun hc1 => ?_) (fun hc1 => ?_)
      · have h := rk_if hc1 h
        refine lv_aload_n hx hb dX10_init_205 rfl (lv_at hl 0 rfl) ?_
        refine va_get (D := D) (ci := 9) (v := .ref q_16) (C := RX10) (T := TX10) (N := 17) hx hb htc inX10 hown hV.1 hP 0 rfl rfl 1 (by decide) (htc _ w_3_239) (fun _ h9 => h9) rfl dX10_init_206 ?_
        refine lv_iconst (v := 0) hx hb dX10_init_209 (by decide) ?_
        refine lv_lconst (v := 1) hx hb dX10_init_210 (by decide) ?_
        refine va_last hx hb hV.1 hP hD hS 2 1 rfl rfl (show vp_in (0 : Int32) 21 from (by decide : ¬ ((0 : Int32) < 0 ∨ 21 ≤ (0 : Int32).toNatClampNeg))) dX10_init_211 (fun H locs hP hD hS => ?_)
        have hP : va_P D vwCl [(a_this, .inr (9, [.ref q_8, .ref q_16, .ref q_24, .ref q_33, .ref q_42, .int 0, .ref q_49, .ref q_57, .ref q_65, .ref q_73, .ref q_81, .ref q_89, .ref q_96, .int 0, .ref q_104, .ref q_112, .ref q_120])), (q_8, .inl (cJ, 3721, .inr (.inl b127_c_new_8))), (q_16, .inl (cJ, 21, .inr (.inl (vp_updL rk_z64 0 (1 : Int64))))), (q_24, .inl (cJ, 31, .inr (.inl rk_z64))), (q_33, .inl (cJ, 3721, .inr (.inl rk_z64))), (q_42, .inl (cJ, 1722, .inr (.inl rk_z64))), (q_49, .inl (cI, 4, .inl rk_z32)), (q_57, .inl (cI, 60, .inl rk_z32)), (q_65, .inl (cI, 60, .inl rk_z32)), (q_73, .inl (cI, 64, .inl rk_z32)), (q_81, .inl (cI, 64, .inl rk_z32)), (q_89, .inl (cJ, 64, .inr (.inl rk_z64))), (q_96, .inl (cI, 4, .inl rk_z32)), (q_104, .inl (cI, 10, .inl rk_z32)), (q_112, .inl (cI, 40, .inl rk_z32)), (q_120, .inl (cJ, 10, .inr (.inl rk_z64)))] H := hP
        have hD : va_D A [(a_this, .inr (9, [.ref q_8, .ref q_16, .ref q_24, .ref q_33, .ref q_42, .int 0, .ref q_49, .ref q_57, .ref q_65, .ref q_73, .ref q_81, .ref q_89, .ref q_96, .int 0, .ref q_104, .ref q_112, .ref q_120])), (q_8, .inl (cJ, 3721, .inr (.inl b127_c_new_8))), (q_16, .inl (cJ, 21, .inr (.inl (vp_updL rk_z64 0 (1 : Int64))))), (q_24, .inl (cJ, 31, .inr (.inl rk_z64))), (q_33, .inl (cJ, 3721, .inr (.inl rk_z64))), (q_42, .inl (cJ, 1722, .inr (.inl rk_z64))), (q_49, .inl (cI, 4, .inl rk_z32)), (q_57, .inl (cI, 60, .inl rk_z32)), (q_65, .inl (cI, 60, .inl rk_z32)), (q_73, .inl (cI, 64, .inl rk_z32)), (q_81, .inl (cI, 64, .inl rk_z32)), (q_89, .inl (cJ, 64, .inr (.inl rk_z64))), (q_96, .inl (cI, 4, .inl rk_z32)), (q_104, .inl (cI, 10, .inl rk_z32)), (q_112, .inl (cI, 40, .inl rk_z32)), (q_120, .inl (cJ, 10, .inr (.inl rk_z64)))] := hD
        refine lv_iconst (v := 1) hx hb dX10_init_212 (by decide) ?_
        refine lv_istore_n (lv' := [(1, .int (1 : Int32)), (0, .ref a_this)]) hx hb dX10_init_213 rfl hl (by decide) rfl (fun ls hl => ?_)
        have L214 : ∀ (n214 : Nat) (b214_l1 : Int32) (b214_c_new_16 : Nat → Int64), rk_it2 (fX10_init_L214 b127_c_new_8) n214 b214_l1 b214_c_new_16 = some r0 → ∀ (H : Heap) (locs : List Loc), va_P D vwCl [(a_this, .inr (9, [.ref q_8, .ref q_16, .ref q_24, .ref q_33, .ref q_42, .int 0, .ref q_49, .ref q_57, .ref q_65, .ref q_73, .ref q_81, .ref q_89, .ref q_96, .int 0, .ref q_104, .ref q_112, .ref q_120])), (q_8, .inl (cJ, 3721, .inr (.inl b127_c_new_8))), (q_16, .inl (cJ, 21, .inr (.inl b214_c_new_16))), (q_24, .inl (cJ, 31, .inr (.inl rk_z64))), (q_33, .inl (cJ, 3721, .inr (.inl rk_z64))), (q_42, .inl (cJ, 1722, .inr (.inl rk_z64))), (q_49, .inl (cI, 4, .inl rk_z32)), (q_57, .inl (cI, 60, .inl rk_z32)), (q_65, .inl (cI, 60, .inl rk_z32)), (q_73, .inl (cI, 64, .inl rk_z32)), (q_81, .inl (cI, 64, .inl rk_z32)), (q_89, .inl (cJ, 64, .inr (.inl rk_z64))), (q_96, .inl (cI, 4, .inl rk_z32)), (q_104, .inl (cI, 10, .inl rk_z32)), (q_112, .inl (cI, 40, .inl rk_z32)), (q_120, .inl (cJ, 10, .inr (.inl rk_z64)))] H → va_D A [(a_this, .inr (9, [.ref q_8, .ref q_16, .ref q_24, .ref q_33, .ref q_42, .int 0, .ref q_49, .ref q_57, .ref q_65, .ref q_73, .ref q_81, .ref q_89, .ref q_96, .int 0, .ref q_104, .ref q_112, .ref q_120])), (q_8, .inl (cJ, 3721, .inr (.inl b127_c_new_8))), (q_16, .inl (cJ, 21, .inr (.inl b214_c_new_16))), (q_24, .inl (cJ, 31, .inr (.inl rk_z64))), (q_33, .inl (cJ, 3721, .inr (.inl rk_z64))), (q_42, .inl (cJ, 1722, .inr (.inl rk_z64))), (q_49, .inl (cI, 4, .inl rk_z32)), (q_57, .inl (cI, 60, .inl rk_z32)), (q_65, .inl (cI, 60, .inl rk_z32)), (q_73, .inl (cI, 64, .inl rk_z32)), (q_81, .inl (cI, 64, .inl rk_z32)), (q_89, .inl (cJ, 64, .inr (.inl rk_z64))), (q_96, .inl (cI, 4, .inl rk_z32)), (q_104, .inl (cI, 10, .inl rk_z32)), (q_112, .inl (cI, 40, .inl rk_z32)), (q_120, .inl (cJ, 10, .inr (.inl rk_z64)))] → va_S A s.heap H locs → ∀ (ls : Array Slot), lv_has ls 3 [(0, .ref a_this), (1, .int b214_l1)] → W p l e rmX10_init s m args below meth c H locs 15 9596 Q (F0 m 214 ls []) := by
          intro n214
          induction n214 with
          | zero => intro b214_l1 b214_c_new_16 h; exact rk_no h
          | succ n214 ih214 =>
            intro b214_l1 b214_c_new_16 h H locs hP hD hS ls hl
            have h : fX10_init_L214 b127_c_new_8 (rk_it2 (fX10_init_L214 b127_c_new_8) n214) b214_l1 b214_c_new_16 = some r0 := h
            unfold fX10_init_L214 at h
            refine lv_iload_n hx hb dX10_init_214 rfl (lv_at hl 1 rfl) ?_
            refine lv_bipush (v := 21) hx hb dX10_init_215 (by decide) ?_
            refine lv_icmp_ge (tgt := 243) hx hb dX10_init_217 (by decide) (fun hc2 => ?_) (fun hc2 => ?_)
            · have h := rk_if hc2 h
              refine lv_iconst (v := 0) hx hb dX10_init_243 (by decide) ?_
              refine lv_istore_n (lv' := [(1, .int (0 : Int32)), (0, .ref a_this)]) hx hb dX10_init_244 rfl hl (by decide) rfl (fun ls hl => ?_)
              have L245 : ∀ (n245 : Nat) (b245_l1 : Int32) (b245_c_new_24 : Nat → Int64), rk_it2 (fX10_init_L245 b127_c_new_8 b214_c_new_16) n245 b245_l1 b245_c_new_24 = some r0 → ∀ (H : Heap) (locs : List Loc), va_P D vwCl [(a_this, .inr (9, [.ref q_8, .ref q_16, .ref q_24, .ref q_33, .ref q_42, .int 0, .ref q_49, .ref q_57, .ref q_65, .ref q_73, .ref q_81, .ref q_89, .ref q_96, .int 0, .ref q_104, .ref q_112, .ref q_120])), (q_8, .inl (cJ, 3721, .inr (.inl b127_c_new_8))), (q_16, .inl (cJ, 21, .inr (.inl b214_c_new_16))), (q_24, .inl (cJ, 31, .inr (.inl b245_c_new_24))), (q_33, .inl (cJ, 3721, .inr (.inl rk_z64))), (q_42, .inl (cJ, 1722, .inr (.inl rk_z64))), (q_49, .inl (cI, 4, .inl rk_z32)), (q_57, .inl (cI, 60, .inl rk_z32)), (q_65, .inl (cI, 60, .inl rk_z32)), (q_73, .inl (cI, 64, .inl rk_z32)), (q_81, .inl (cI, 64, .inl rk_z32)), (q_89, .inl (cJ, 64, .inr (.inl rk_z64))), (q_96, .inl (cI, 4, .inl rk_z32)), (q_104, .inl (cI, 10, .inl rk_z32)), (q_112, .inl (cI, 40, .inl rk_z32)), (q_120, .inl (cJ, 10, .inr (.inl rk_z64)))] H → va_D A [(a_this, .inr (9, [.ref q_8, .ref q_16, .ref q_24, .ref q_33, .ref q_42, .int 0, .ref q_49, .ref q_57, .ref q_65, .ref q_73, .ref q_81, .ref q_89, .ref q_96, .int 0, .ref q_104, .ref q_112, .ref q_120])), (q_8, .inl (cJ, 3721, .inr (.inl b127_c_new_8))), (q_16, .inl (cJ, 21, .inr (.inl b214_c_new_16))), (q_24, .inl (cJ, 31, .inr (.inl b245_c_new_24))), (q_33, .inl (cJ, 3721, .inr (.inl rk_z64))), (q_42, .inl (cJ, 1722, .inr (.inl rk_z64))), (q_49, .inl (cI, 4, .inl rk_z32)), (q_57, .inl (cI, 60, .inl rk_z32)), (q_65, .inl (cI, 60, .inl rk_z32)), (q_73, .inl (cI, 64, .inl rk_z32)), (q_81, .inl (cI, 64, .inl rk_z32)), (q_89, .inl (cJ, 64, .inr (.inl rk_z64))), (q_96, .inl (cI, 4, .inl rk_z32)), (q_104, .inl (cI, 10, .inl rk_z32)), (q_112, .inl (cI, 40, .inl rk_z32)), (q_120, .inl (cJ, 10, .inr (.inl rk_z64)))] → va_S A s.heap H locs → ∀ (ls : Array Slot), lv_has ls 3 [(0, .ref a_this), (1, .int b245_l1)] → W p l e rmX10_init s m args below meth c H locs 15 9596 Q (F0 m 245 ls []) := by
                intro n245
                induction n245 with
                | zero => intro b245_l1 b245_c_new_24 h; exact rk_no h
                | succ n245 ih245 =>
                  intro b245_l1 b245_c_new_24 h H locs hP hD hS ls hl
                  have h : fX10_init_L245 b127_c_new_8 b214_c_new_16 (rk_it2 (fX10_init_L245 b127_c_new_8 b214_c_new_16) n245) b245_l1 b245_c_new_24 = some r0 := h
                  unfold fX10_init_L245 at h
                  refine lv_iload_n hx hb dX10_init_245 rfl (lv_at hl 1 rfl) ?_
                  refine lv_bipush (v := 31) hx hb dX10_init_246 (by decide) ?_
                  refine lv_icmp_ge (tgt := 279) hx hb dX10_init_248 (by decide) (fun hc3 => ?_) (fun hc3 => ?_)
                  · have h := rk_if hc3 h
                    refine lv_aload_n hx hb dX10_init_279 rfl (lv_at hl 0 rfl) ?_
                    obtain ⟨r_280, hc_280, h⟩ := rk_bd h
                    refine rk_v (wr := [(a_this, .inr (9, [.ref q_8, .ref q_16, .ref q_24, .ref q_33, .ref q_42, .int 0, .ref q_49, .ref q_57, .ref q_65, .ref q_73, .ref q_81, .ref q_89, .ref q_96, .int 0, .ref q_104, .ref q_112, .ref q_120])), (q_8, .inl (cJ, 3721, .inr (.inl b127_c_new_8))), (q_16, .inl (cJ, 21, .inr (.inl b214_c_new_16))), (q_24, .inl (cJ, 31, .inr (.inl b245_c_new_24))), (q_42, .inl (cJ, 1722, .inr (.inl rk_z64))), (q_49, .inl (cI, 4, .inl rk_z32)), (q_57, .inl (cI, 60, .inl rk_z32)), (q_65, .inl (cI, 60, .inl rk_z32)), (q_73, .inl (cI, 64, .inl rk_z32)), (q_81, .inl (cI, 64, .inl rk_z32)), (q_89, .inl (cJ, 64, .inr (.inl rk_z64))), (q_96, .inl (cI, 4, .inl rk_z32)), (q_104, .inl (cI, 10, .inl rk_z32)), (q_112, .inl (cI, 40, .inl rk_z32)), (q_120, .inl (cJ, 10, .inr (.inl rk_z64)))]) (va_runV (C := RX10) (As := []) (rest := []) hF (mtX10_layParted l D cI cJ cO PL _ a_this q_8 q_16 q_24 q_33 q_42 0 q_49 q_57 q_65 q_73 q_81 q_89 q_96 0 q_104 q_112 q_120 rk_z64 r_280 hc_280) (cwV 0 htc (rk_gV w_3_230 w_3_232 ws_33 w_1_7 w_3_233) rfl rfl rfl (by decide +kernel) ⟨(Nat.le_of_ble_eq_true rfl), (Nat.le_of_ble_eq_true rfl)⟩) (rk_preV (va_recv hV.1 hP (ci := 9) (q0 := 0) rfl rfl) (rk_preS hP hD hS rk_nilP hn hPL hnl hV [4] [(true, 0)] rfl (by decide) rfl (by decide))) rfl rfl hl.1 rfl (lv_room (Nat.le_of_ble_eq_true rfl)) dX10_init_280 ⟨(Nat.le_of_ble_eq_true rfl), (Nat.le_of_ble_eq_true rfl)⟩) hP hD hS hA hR0 hn [4] [0, 1, 2, 3, 5, 6, 7, 8, 9, 10, 11, 12, 13, 14, 15] rfl rfl (by decide) (by decide) (fun H locs hP hD hS hR => ?_)
                    have hP : va_P D vwCl [(a_this, .inr (9, [.ref q_8, .ref q_16, .ref q_24, .ref q_33, .ref q_42, .int 0, .ref q_49, .ref q_57, .ref q_65, .ref q_73, .ref q_81, .ref q_89, .ref q_96, .int 0, .ref q_104, .ref q_112, .ref q_120])), (q_8, .inl (cJ, 3721, .inr (.inl b127_c_new_8))), (q_16, .inl (cJ, 21, .inr (.inl b214_c_new_16))), (q_24, .inl (cJ, 31, .inr (.inl b245_c_new_24))), (q_42, .inl (cJ, 1722, .inr (.inl rk_z64))), (q_49, .inl (cI, 4, .inl rk_z32)), (q_57, .inl (cI, 60, .inl rk_z32)), (q_65, .inl (cI, 60, .inl rk_z32)), (q_73, .inl (cI, 64, .inl rk_z32)), (q_81, .inl (cI, 64, .inl rk_z32)), (q_89, .inl (cJ, 64, .inr (.inl rk_z64))), (q_96, .inl (cI, 4, .inl rk_z32)), (q_104, .inl (cI, 10, .inl rk_z32)), (q_112, .inl (cI, 40, .inl rk_z32)), (q_120, .inl (cJ, 10, .inr (.inl rk_z64))), (q_33, .inl (cJ, 3721, .inr (.inl r_280)))] H := hP
                    have hD : va_D A [(a_this, .inr (9, [.ref q_8, .ref q_16, .ref q_24, .ref q_33, .ref q_42, .int 0, .ref q_49, .ref q_57, .ref q_65, .ref q_73, .ref q_81, .ref q_89, .ref q_96, .int 0, .ref q_104, .ref q_112, .ref q_120])), (q_8, .inl (cJ, 3721, .inr (.inl b127_c_new_8))), (q_16, .inl (cJ, 21, .inr (.inl b214_c_new_16))), (q_24, .inl (cJ, 31, .inr (.inl b245_c_new_24))), (q_42, .inl (cJ, 1722, .inr (.inl rk_z64))), (q_49, .inl (cI, 4, .inl rk_z32)), (q_57, .inl (cI, 60, .inl rk_z32)), (q_65, .inl (cI, 60, .inl rk_z32)), (q_73, .inl (cI, 64, .inl rk_z32)), (q_81, .inl (cI, 64, .inl rk_z32)), (q_89, .inl (cJ, 64, .inr (.inl rk_z64))), (q_96, .inl (cI, 4, .inl rk_z32)), (q_104, .inl (cI, 10, .inl rk_z32)), (q_112, .inl (cI, 40, .inl rk_z32)), (q_120, .inl (cJ, 10, .inr (.inl rk_z64))), (q_33, .inl (cJ, 3721, .inr (.inl r_280)))] := hD
                    refine lv_aload_n hx hb dX10_init_283 rfl (lv_at hl 0 rfl) ?_
                    obtain ⟨r_284, hc_284, h⟩ := rk_bd h
                    refine rk_v (wr := [(a_this, .inr (9, [.ref q_8, .ref q_16, .ref q_24, .ref q_33, .ref q_42, .int 0, .ref q_49, .ref q_57, .ref q_65, .ref q_73, .ref q_81, .ref q_89, .ref q_96, .int 0, .ref q_104, .ref q_112, .ref q_120])), (q_8, .inl (cJ, 3721, .inr (.inl b127_c_new_8))), (q_16, .inl (cJ, 21, .inr (.inl b214_c_new_16))), (q_24, .inl (cJ, 31, .inr (.inl b245_c_new_24))), (q_49, .inl (cI, 4, .inl rk_z32)), (q_57, .inl (cI, 60, .inl rk_z32)), (q_65, .inl (cI, 60, .inl rk_z32)), (q_73, .inl (cI, 64, .inl rk_z32)), (q_81, .inl (cI, 64, .inl rk_z32)), (q_89, .inl (cJ, 64, .inr (.inl rk_z64))), (q_96, .inl (cI, 4, .inl rk_z32)), (q_104, .inl (cI, 10, .inl rk_z32)), (q_112, .inl (cI, 40, .inl rk_z32)), (q_120, .inl (cJ, 10, .inr (.inl rk_z64))), (q_33, .inl (cJ, 3721, .inr (.inl r_280)))]) (va_runV (C := RX10) (As := []) (rest := []) hF (mtX10_layClosed l D cI cJ cO PL _ a_this q_8 q_16 q_24 q_33 q_42 0 q_49 q_57 q_65 q_73 q_81 q_89 q_96 0 q_104 q_112 q_120 rk_z64 r_284 hc_284) (cwV 0 htc (rk_gV w_3_234 w_3_236 ws_34 w_1_7 w_3_237) rfl rfl rfl (by decide +kernel) ⟨(Nat.le_of_ble_eq_true rfl), (Nat.le_of_ble_eq_true rfl)⟩) (rk_preV (va_recv hV.1 hP (ci := 9) (q0 := 0) rfl rfl) (rk_preS hP hD hS rk_nilP hn hPL hnl hV [4] [(true, 0)] rfl (by decide) rfl (by decide))) rfl rfl hl.1 rfl (lv_room (Nat.le_of_ble_eq_true rfl)) dX10_init_284 ⟨(Nat.le_of_ble_eq_true rfl), (Nat.le_of_ble_eq_true rfl)⟩) hP hD hS hA hR0 hn [4] [0, 1, 2, 3, 5, 6, 7, 8, 9, 10, 11, 12, 13, 14, 15] rfl rfl (by decide) (by decide) (fun H locs hP hD hS hR => ?_)
                    have hP : va_P D vwCl [(a_this, .inr (9, [.ref q_8, .ref q_16, .ref q_24, .ref q_33, .ref q_42, .int 0, .ref q_49, .ref q_57, .ref q_65, .ref q_73, .ref q_81, .ref q_89, .ref q_96, .int 0, .ref q_104, .ref q_112, .ref q_120])), (q_8, .inl (cJ, 3721, .inr (.inl b127_c_new_8))), (q_16, .inl (cJ, 21, .inr (.inl b214_c_new_16))), (q_24, .inl (cJ, 31, .inr (.inl b245_c_new_24))), (q_49, .inl (cI, 4, .inl rk_z32)), (q_57, .inl (cI, 60, .inl rk_z32)), (q_65, .inl (cI, 60, .inl rk_z32)), (q_73, .inl (cI, 64, .inl rk_z32)), (q_81, .inl (cI, 64, .inl rk_z32)), (q_89, .inl (cJ, 64, .inr (.inl rk_z64))), (q_96, .inl (cI, 4, .inl rk_z32)), (q_104, .inl (cI, 10, .inl rk_z32)), (q_112, .inl (cI, 40, .inl rk_z32)), (q_120, .inl (cJ, 10, .inr (.inl rk_z64))), (q_33, .inl (cJ, 3721, .inr (.inl r_280))), (q_42, .inl (cJ, 1722, .inr (.inl r_284)))] H := hP
                    have hD : va_D A [(a_this, .inr (9, [.ref q_8, .ref q_16, .ref q_24, .ref q_33, .ref q_42, .int 0, .ref q_49, .ref q_57, .ref q_65, .ref q_73, .ref q_81, .ref q_89, .ref q_96, .int 0, .ref q_104, .ref q_112, .ref q_120])), (q_8, .inl (cJ, 3721, .inr (.inl b127_c_new_8))), (q_16, .inl (cJ, 21, .inr (.inl b214_c_new_16))), (q_24, .inl (cJ, 31, .inr (.inl b245_c_new_24))), (q_49, .inl (cI, 4, .inl rk_z32)), (q_57, .inl (cI, 60, .inl rk_z32)), (q_65, .inl (cI, 60, .inl rk_z32)), (q_73, .inl (cI, 64, .inl rk_z32)), (q_81, .inl (cI, 64, .inl rk_z32)), (q_89, .inl (cJ, 64, .inr (.inl rk_z64))), (q_96, .inl (cI, 4, .inl rk_z32)), (q_104, .inl (cI, 10, .inl rk_z32)), (q_112, .inl (cI, 40, .inl rk_z32)), (q_120, .inl (cJ, 10, .inr (.inl rk_z64))), (q_33, .inl (cJ, 3721, .inr (.inl r_280))), (q_42, .inl (cJ, 1722, .inr (.inl r_284)))] := hD
                    refine W.widen (k := 15) (n := 9596) (Nat.le_of_ble_eq_true rfl) (Nat.le_of_ble_eq_true rfl) ?_
                    exact hret (b127_c_new_8, b214_c_new_16, b245_c_new_24, r_280, r_284) (rk_qs [q_8, q_16, q_24, q_49, q_57, q_65, q_73, q_81, q_89, q_96, q_104, q_112, q_120, q_33, q_42]) _ _ _ _ h dX10_init_287 hP hD hS
                  · have h := rk_nif hc3 h
                    refine lv_aload_n hx hb dX10_init_251 rfl (lv_at hl 0 rfl) ?_
                    refine va_get (D := D) (ci := 9) (v := .ref q_24) (C := RX10) (T := TX10) (N := 17) hx hb htc inX10 hown hV.1 hP 0 rfl rfl 2 (by decide) (htc _ w_4_0) (fun _ h9 => h9) rfl dX10_init_252 ?_
                    refine lv_iload_n hx hb dX10_init_255 rfl (lv_at hl 1 rfl) ?_
                    refine lv_aload_n hx hb dX10_init_256 rfl (lv_at hl 0 rfl) ?_
                    refine va_get (D := D) (ci := 9) (v := .ref q_8) (C := RX10) (T := TX10) (N := 17) hx hb htc inX10 hown hV.1 hP 0 rfl rfl 0 (by decide) (htc _ w_3_238) (fun _ h9 => h9) rfl dX10_init_257 ?_
                    refine lv_bipush (v := 122) hx hb dX10_init_260 (by decide) ?_
                    refine lv_iload_n hx hb dX10_init_262 rfl (lv_at hl 1 rfl) ?_
                    refine lv_imul hx hb dX10_init_263 ?_
                    refine lv_iload_n hx hb dX10_init_264 rfl (lv_at hl 1 rfl) ?_
                    refine lv_iadd hx hb dX10_init_265 ?_
                    obtain ⟨hg4, h⟩ := rk_gd h
                    refine va_lald hx hb hV.1 hP 1 1 rfl rfl hg4 dX10_init_266 ?_
                    refine lv_iload_n hx hb dX10_init_267 rfl (lv_at hl 1 rfl) ?_
                    refine lv_iconst (v := 1) hx hb dX10_init_268 (by decide) ?_
                    refine lv_iadd hx hb dX10_init_269 ?_
                    refine lv_i2l hx hb dX10_init_270 rfl ?_
                    obtain ⟨hz5, h⟩ := rk_gd h
                    refine lv_ldiv hx hb dX10_init_271 hz5 ?_
                    obtain ⟨hg6, h⟩ := rk_gd h
                    refine va_last hx hb hV.1 hP hD hS 3 1 rfl rfl hg6 dX10_init_272 (fun H locs hP hD hS => ?_)
                    have hP : va_P D vwCl [(a_this, .inr (9, [.ref q_8, .ref q_16, .ref q_24, .ref q_33, .ref q_42, .int 0, .ref q_49, .ref q_57, .ref q_65, .ref q_73, .ref q_81, .ref q_89, .ref q_96, .int 0, .ref q_104, .ref q_112, .ref q_120])), (q_8, .inl (cJ, 3721, .inr (.inl b127_c_new_8))), (q_16, .inl (cJ, 21, .inr (.inl b214_c_new_16))), (q_24, .inl (cJ, 31, .inr (.inl (vp_updL b245_c_new_24 b245_l1.toNatClampNeg ((b127_c_new_8 (((122 : Int32) * b245_l1) + b245_l1).toNatClampNeg) / (b245_l1 + (1 : Int32)).toInt64))))), (q_33, .inl (cJ, 3721, .inr (.inl rk_z64))), (q_42, .inl (cJ, 1722, .inr (.inl rk_z64))), (q_49, .inl (cI, 4, .inl rk_z32)), (q_57, .inl (cI, 60, .inl rk_z32)), (q_65, .inl (cI, 60, .inl rk_z32)), (q_73, .inl (cI, 64, .inl rk_z32)), (q_81, .inl (cI, 64, .inl rk_z32)), (q_89, .inl (cJ, 64, .inr (.inl rk_z64))), (q_96, .inl (cI, 4, .inl rk_z32)), (q_104, .inl (cI, 10, .inl rk_z32)), (q_112, .inl (cI, 40, .inl rk_z32)), (q_120, .inl (cJ, 10, .inr (.inl rk_z64)))] H := hP
                    have hD : va_D A [(a_this, .inr (9, [.ref q_8, .ref q_16, .ref q_24, .ref q_33, .ref q_42, .int 0, .ref q_49, .ref q_57, .ref q_65, .ref q_73, .ref q_81, .ref q_89, .ref q_96, .int 0, .ref q_104, .ref q_112, .ref q_120])), (q_8, .inl (cJ, 3721, .inr (.inl b127_c_new_8))), (q_16, .inl (cJ, 21, .inr (.inl b214_c_new_16))), (q_24, .inl (cJ, 31, .inr (.inl (vp_updL b245_c_new_24 b245_l1.toNatClampNeg ((b127_c_new_8 (((122 : Int32) * b245_l1) + b245_l1).toNatClampNeg) / (b245_l1 + (1 : Int32)).toInt64))))), (q_33, .inl (cJ, 3721, .inr (.inl rk_z64))), (q_42, .inl (cJ, 1722, .inr (.inl rk_z64))), (q_49, .inl (cI, 4, .inl rk_z32)), (q_57, .inl (cI, 60, .inl rk_z32)), (q_65, .inl (cI, 60, .inl rk_z32)), (q_73, .inl (cI, 64, .inl rk_z32)), (q_81, .inl (cI, 64, .inl rk_z32)), (q_89, .inl (cJ, 64, .inr (.inl rk_z64))), (q_96, .inl (cI, 4, .inl rk_z32)), (q_104, .inl (cI, 10, .inl rk_z32)), (q_112, .inl (cI, 40, .inl rk_z32)), (q_120, .inl (cJ, 10, .inr (.inl rk_z64)))] := hD
                    refine lv_iinc (v := (b245_l1 + 1)) (lv' := [(1, .int (b245_l1 + 1)), (0, .ref a_this)]) hx hb dX10_init_273 hl (k := 1) rfl rfl (by decide) rfl (fun ls hl => ?_)
                    refine lv_goto (tgt := 245) hx hb dX10_init_276 (by decide) ?_
                    exact ih245 (b245_l1 + 1) (vp_updL b245_c_new_24 b245_l1.toNatClampNeg ((b127_c_new_8 (((122 : Int32) * b245_l1) + b245_l1).toNatClampNeg) / (b245_l1 + (1 : Int32)).toInt64)) h _ _ hP hD hS _ (lv_sub hl [1, 0] rfl)
              exact L245 FU (0 : Int32) rk_z64 h _ _ hP hD hS _ (lv_sub hl [1, 0] rfl)
            · have h := rk_nif hc2 h
              refine lv_aload_n hx hb dX10_init_220 rfl (lv_at hl 0 rfl) ?_
              refine va_get (D := D) (ci := 9) (v := .ref q_16) (C := RX10) (T := TX10) (N := 17) hx hb htc inX10 hown hV.1 hP 0 rfl rfl 1 (by decide) (htc _ w_3_239) (fun _ h9 => h9) rfl dX10_init_221 ?_
              refine lv_iload_n hx hb dX10_init_224 rfl (lv_at hl 1 rfl) ?_
              refine lv_iload_n hx hb dX10_init_225 rfl (lv_at hl 1 rfl) ?_
              refine lv_i2l hx hb dX10_init_226 rfl ?_
              refine lv_aload_n hx hb dX10_init_227 rfl (lv_at hl 0 rfl) ?_
              refine va_get (D := D) (ci := 9) (v := .ref q_16) (C := RX10) (T := TX10) (N := 17) hx hb htc inX10 hown hV.1 hP 0 rfl rfl 1 (by decide) (htc _ w_3_239) (fun _ h9 => h9) rfl dX10_init_228 ?_
              refine lv_iload_n hx hb dX10_init_231 rfl (lv_at hl 1 rfl) ?_
              refine lv_iconst (v := 1) hx hb dX10_init_232 (by decide) ?_
              refine lv_isub hx hb dX10_init_233 ?_
              obtain ⟨hg7, h⟩ := rk_gd h
              refine va_lald hx hb hV.1 hP 2 1 rfl rfl hg7 dX10_init_234 ?_
              refine lv_lmul hx hb dX10_init_235 ?_
              obtain ⟨hg8, h⟩ := rk_gd h
              refine va_last hx hb hV.1 hP hD hS 2 1 rfl rfl hg8 dX10_init_236 (fun H locs hP hD hS => ?_)
              have hP : va_P D vwCl [(a_this, .inr (9, [.ref q_8, .ref q_16, .ref q_24, .ref q_33, .ref q_42, .int 0, .ref q_49, .ref q_57, .ref q_65, .ref q_73, .ref q_81, .ref q_89, .ref q_96, .int 0, .ref q_104, .ref q_112, .ref q_120])), (q_8, .inl (cJ, 3721, .inr (.inl b127_c_new_8))), (q_16, .inl (cJ, 21, .inr (.inl (vp_updL b214_c_new_16 b214_l1.toNatClampNeg (b214_l1.toInt64 * (b214_c_new_16 (b214_l1 - (1 : Int32)).toNatClampNeg)))))), (q_24, .inl (cJ, 31, .inr (.inl rk_z64))), (q_33, .inl (cJ, 3721, .inr (.inl rk_z64))), (q_42, .inl (cJ, 1722, .inr (.inl rk_z64))), (q_49, .inl (cI, 4, .inl rk_z32)), (q_57, .inl (cI, 60, .inl rk_z32)), (q_65, .inl (cI, 60, .inl rk_z32)), (q_73, .inl (cI, 64, .inl rk_z32)), (q_81, .inl (cI, 64, .inl rk_z32)), (q_89, .inl (cJ, 64, .inr (.inl rk_z64))), (q_96, .inl (cI, 4, .inl rk_z32)), (q_104, .inl (cI, 10, .inl rk_z32)), (q_112, .inl (cI, 40, .inl rk_z32)), (q_120, .inl (cJ, 10, .inr (.inl rk_z64)))] H := hP
              have hD : va_D A [(a_this, .inr (9, [.ref q_8, .ref q_16, .ref q_24, .ref q_33, .ref q_42, .int 0, .ref q_49, .ref q_57, .ref q_65, .ref q_73, .ref q_81, .ref q_89, .ref q_96, .int 0, .ref q_104, .ref q_112, .ref q_120])), (q_8, .inl (cJ, 3721, .inr (.inl b127_c_new_8))), (q_16, .inl (cJ, 21, .inr (.inl (vp_updL b214_c_new_16 b214_l1.toNatClampNeg (b214_l1.toInt64 * (b214_c_new_16 (b214_l1 - (1 : Int32)).toNatClampNeg)))))), (q_24, .inl (cJ, 31, .inr (.inl rk_z64))), (q_33, .inl (cJ, 3721, .inr (.inl rk_z64))), (q_42, .inl (cJ, 1722, .inr (.inl rk_z64))), (q_49, .inl (cI, 4, .inl rk_z32)), (q_57, .inl (cI, 60, .inl rk_z32)), (q_65, .inl (cI, 60, .inl rk_z32)), (q_73, .inl (cI, 64, .inl rk_z32)), (q_81, .inl (cI, 64, .inl rk_z32)), (q_89, .inl (cJ, 64, .inr (.inl rk_z64))), (q_96, .inl (cI, 4, .inl rk_z32)), (q_104, .inl (cI, 10, .inl rk_z32)), (q_112, .inl (cI, 40, .inl rk_z32)), (q_120, .inl (cJ, 10, .inr (.inl rk_z64)))] := hD
              refine lv_iinc (v := (b214_l1 + 1)) (lv' := [(1, .int (b214_l1 + 1)), (0, .ref a_this)]) hx hb dX10_init_237 hl (k := 1) rfl rfl (by decide) rfl (fun ls hl => ?_)
              refine lv_goto (tgt := 214) hx hb dX10_init_240 (by decide) ?_
              exact ih214 (b214_l1 + 1) (vp_updL b214_c_new_16 b214_l1.toNatClampNeg (b214_l1.toInt64 * (b214_c_new_16 (b214_l1 - (1 : Int32)).toNatClampNeg))) h _ _ hP hD hS _ (lv_sub hl [1, 0] rfl)
        exact L214 FU (1 : Int32) (vp_updL rk_z64 0 (1 : Int64)) h _ _ hP hD hS _ (lv_sub hl [1, 0] rfl)
      · have h := rk_nif hc1 h
        refine lv_iconst (v := 0) hx hb dX10_init_133 (by decide) ?_
        refine lv_istore_n (lv' := [(2, .int (0 : Int32)), (0, .ref a_this), (1, .int b127_l1)]) hx hb dX10_init_134 rfl hl (by decide) rfl (fun ls hl => ?_)
        have L135 : ∀ (n135 : Nat) (b135_l2 : Int32) (b135_c_new_8 : Nat → Int64), rk_it2 (fX10_init_L135 b127_l1 (rk_it2 (fX10_init_L127) n127)) n135 b135_l2 b135_c_new_8 = some r0 → ∀ (H : Heap) (locs : List Loc), va_P D vwCl [(a_this, .inr (9, [.ref q_8, .ref q_16, .ref q_24, .ref q_33, .ref q_42, .int 0, .ref q_49, .ref q_57, .ref q_65, .ref q_73, .ref q_81, .ref q_89, .ref q_96, .int 0, .ref q_104, .ref q_112, .ref q_120])), (q_8, .inl (cJ, 3721, .inr (.inl b135_c_new_8))), (q_16, .inl (cJ, 21, .inr (.inl rk_z64))), (q_24, .inl (cJ, 31, .inr (.inl rk_z64))), (q_33, .inl (cJ, 3721, .inr (.inl rk_z64))), (q_42, .inl (cJ, 1722, .inr (.inl rk_z64))), (q_49, .inl (cI, 4, .inl rk_z32)), (q_57, .inl (cI, 60, .inl rk_z32)), (q_65, .inl (cI, 60, .inl rk_z32)), (q_73, .inl (cI, 64, .inl rk_z32)), (q_81, .inl (cI, 64, .inl rk_z32)), (q_89, .inl (cJ, 64, .inr (.inl rk_z64))), (q_96, .inl (cI, 4, .inl rk_z32)), (q_104, .inl (cI, 10, .inl rk_z32)), (q_112, .inl (cI, 40, .inl rk_z32)), (q_120, .inl (cJ, 10, .inr (.inl rk_z64)))] H → va_D A [(a_this, .inr (9, [.ref q_8, .ref q_16, .ref q_24, .ref q_33, .ref q_42, .int 0, .ref q_49, .ref q_57, .ref q_65, .ref q_73, .ref q_81, .ref q_89, .ref q_96, .int 0, .ref q_104, .ref q_112, .ref q_120])), (q_8, .inl (cJ, 3721, .inr (.inl b135_c_new_8))), (q_16, .inl (cJ, 21, .inr (.inl rk_z64))), (q_24, .inl (cJ, 31, .inr (.inl rk_z64))), (q_33, .inl (cJ, 3721, .inr (.inl rk_z64))), (q_42, .inl (cJ, 1722, .inr (.inl rk_z64))), (q_49, .inl (cI, 4, .inl rk_z32)), (q_57, .inl (cI, 60, .inl rk_z32)), (q_65, .inl (cI, 60, .inl rk_z32)), (q_73, .inl (cI, 64, .inl rk_z32)), (q_81, .inl (cI, 64, .inl rk_z32)), (q_89, .inl (cJ, 64, .inr (.inl rk_z64))), (q_96, .inl (cI, 4, .inl rk_z32)), (q_104, .inl (cI, 10, .inl rk_z32)), (q_112, .inl (cI, 40, .inl rk_z32)), (q_120, .inl (cJ, 10, .inr (.inl rk_z64)))] → va_S A s.heap H locs → ∀ (ls : Array Slot), lv_has ls 3 [(0, .ref a_this), (1, .int b127_l1), (2, .int b135_l2)] → W p l e rmX10_init s m args below meth c H locs 15 9596 Q (F0 m 135 ls []) := by
          intro n135
          induction n135 with
          | zero => intro b135_l2 b135_c_new_8 h; exact rk_no h
          | succ n135 ih135 =>
            intro b135_l2 b135_c_new_8 h H locs hP hD hS ls hl
            have h : fX10_init_L135 b127_l1 (rk_it2 (fX10_init_L127) n127) (rk_it2 (fX10_init_L135 b127_l1 (rk_it2 (fX10_init_L127) n127)) n135) b135_l2 b135_c_new_8 = some r0 := h
            unfold fX10_init_L135 at h
            refine lv_iload_n hx hb dX10_init_135 rfl (lv_at hl 2 rfl) ?_
            refine lv_iload_n hx hb dX10_init_136 rfl (lv_at hl 1 rfl) ?_
            refine lv_icmp_gt (tgt := 199) hx hb dX10_init_137 (by decide) (fun hc9 => ?_) (fun hc9 => ?_)
            · have h := rk_if hc9 h
              refine lv_iinc (v := (b127_l1 + 1)) (lv' := [(1, .int (b127_l1 + 1)), (0, .ref a_this), (2, .int b135_l2)]) hx hb dX10_init_199 hl (k := 1) rfl rfl (by decide) rfl (fun ls hl => ?_)
              refine lv_goto (tgt := 127) hx hb dX10_init_202 (by decide) ?_
              exact ih127 (b127_l1 + 1) b135_c_new_8 h _ _ hP hD hS _ (lv_sub hl [1, 0] rfl)
            · have h := rk_nif hc9 h
              refine lv_aload_n hx hb dX10_init_140 rfl (lv_at hl 0 rfl) ?_
              refine va_get (D := D) (ci := 9) (v := .ref q_8) (C := RX10) (T := TX10) (N := 17) hx hb htc inX10 hown hV.1 hP 0 rfl rfl 0 (by decide) (htc _ w_3_238) (fun _ h9 => h9) rfl dX10_init_141 ?_
              refine lv_bipush (v := 61) hx hb dX10_init_144 (by decide) ?_
              refine lv_iload_n hx hb dX10_init_146 rfl (lv_at hl 1 rfl) ?_
              refine lv_imul hx hb dX10_init_147 ?_
              refine lv_iload_n hx hb dX10_init_148 rfl (lv_at hl 2 rfl) ?_
              refine lv_iadd hx hb dX10_init_149 ?_
              refine lv_iload_n hx hb dX10_init_150 rfl (lv_at hl 2 rfl) ?_
              have B192 : ∀ (b192_t2 : Int64), fX10_init_B192 b127_l1 b135_l2 b135_c_new_8 (rk_it2 (fX10_init_L135 b127_l1 (rk_it2 (fX10_init_L127) n127)) n135) b192_t2 = some r0 → ∀ (H : Heap) (locs : List Loc), va_P D vwCl [(a_this, .inr (9, [.ref q_8, .ref q_16, .ref q_24, .ref q_33, .ref q_42, .int 0, .ref q_49, .ref q_57, .ref q_65, .ref q_73, .ref q_81, .ref q_89, .ref q_96, .int 0, .ref q_104, .ref q_112, .ref q_120])), (q_8, .inl (cJ, 3721, .inr (.inl b135_c_new_8))), (q_16, .inl (cJ, 21, .inr (.inl rk_z64))), (q_24, .inl (cJ, 31, .inr (.inl rk_z64))), (q_33, .inl (cJ, 3721, .inr (.inl rk_z64))), (q_42, .inl (cJ, 1722, .inr (.inl rk_z64))), (q_49, .inl (cI, 4, .inl rk_z32)), (q_57, .inl (cI, 60, .inl rk_z32)), (q_65, .inl (cI, 60, .inl rk_z32)), (q_73, .inl (cI, 64, .inl rk_z32)), (q_81, .inl (cI, 64, .inl rk_z32)), (q_89, .inl (cJ, 64, .inr (.inl rk_z64))), (q_96, .inl (cI, 4, .inl rk_z32)), (q_104, .inl (cI, 10, .inl rk_z32)), (q_112, .inl (cI, 40, .inl rk_z32)), (q_120, .inl (cJ, 10, .inr (.inl rk_z64)))] H → va_D A [(a_this, .inr (9, [.ref q_8, .ref q_16, .ref q_24, .ref q_33, .ref q_42, .int 0, .ref q_49, .ref q_57, .ref q_65, .ref q_73, .ref q_81, .ref q_89, .ref q_96, .int 0, .ref q_104, .ref q_112, .ref q_120])), (q_8, .inl (cJ, 3721, .inr (.inl b135_c_new_8))), (q_16, .inl (cJ, 21, .inr (.inl rk_z64))), (q_24, .inl (cJ, 31, .inr (.inl rk_z64))), (q_33, .inl (cJ, 3721, .inr (.inl rk_z64))), (q_42, .inl (cJ, 1722, .inr (.inl rk_z64))), (q_49, .inl (cI, 4, .inl rk_z32)), (q_57, .inl (cI, 60, .inl rk_z32)), (q_65, .inl (cI, 60, .inl rk_z32)), (q_73, .inl (cI, 64, .inl rk_z32)), (q_81, .inl (cI, 64, .inl rk_z32)), (q_89, .inl (cJ, 64, .inr (.inl rk_z64))), (q_96, .inl (cI, 4, .inl rk_z32)), (q_104, .inl (cI, 10, .inl rk_z32)), (q_112, .inl (cI, 40, .inl rk_z32)), (q_120, .inl (cJ, 10, .inr (.inl rk_z64)))] → va_S A s.heap H locs → ∀ (ls : Array Slot), lv_has ls 3 [(0, .ref a_this), (1, .int b127_l1), (2, .int b135_l2)] → W p l e rmX10_init s m args below meth c H locs 15 9596 Q (F0 m 192 ls [.long b192_t2, .int (((61 : Int32) * b127_l1) + b135_l2), .ref q_8]) := by
                intro b192_t2 h H locs hP hD hS ls hl
                unfold fX10_init_B192 at h
                obtain ⟨hg10, h⟩ := rk_gd h
                refine va_last hx hb hV.1 hP hD hS 1 1 rfl rfl hg10 dX10_init_192 (fun H locs hP hD hS => ?_)
                have hP : va_P D vwCl [(a_this, .inr (9, [.ref q_8, .ref q_16, .ref q_24, .ref q_33, .ref q_42, .int 0, .ref q_49, .ref q_57, .ref q_65, .ref q_73, .ref q_81, .ref q_89, .ref q_96, .int 0, .ref q_104, .ref q_112, .ref q_120])), (q_8, .inl (cJ, 3721, .inr (.inl (vp_updL b135_c_new_8 (((61 : Int32) * b127_l1) + b135_l2).toNatClampNeg b192_t2)))), (q_16, .inl (cJ, 21, .inr (.inl rk_z64))), (q_24, .inl (cJ, 31, .inr (.inl rk_z64))), (q_33, .inl (cJ, 3721, .inr (.inl rk_z64))), (q_42, .inl (cJ, 1722, .inr (.inl rk_z64))), (q_49, .inl (cI, 4, .inl rk_z32)), (q_57, .inl (cI, 60, .inl rk_z32)), (q_65, .inl (cI, 60, .inl rk_z32)), (q_73, .inl (cI, 64, .inl rk_z32)), (q_81, .inl (cI, 64, .inl rk_z32)), (q_89, .inl (cJ, 64, .inr (.inl rk_z64))), (q_96, .inl (cI, 4, .inl rk_z32)), (q_104, .inl (cI, 10, .inl rk_z32)), (q_112, .inl (cI, 40, .inl rk_z32)), (q_120, .inl (cJ, 10, .inr (.inl rk_z64)))] H := hP
                have hD : va_D A [(a_this, .inr (9, [.ref q_8, .ref q_16, .ref q_24, .ref q_33, .ref q_42, .int 0, .ref q_49, .ref q_57, .ref q_65, .ref q_73, .ref q_81, .ref q_89, .ref q_96, .int 0, .ref q_104, .ref q_112, .ref q_120])), (q_8, .inl (cJ, 3721, .inr (.inl (vp_updL b135_c_new_8 (((61 : Int32) * b127_l1) + b135_l2).toNatClampNeg b192_t2)))), (q_16, .inl (cJ, 21, .inr (.inl rk_z64))), (q_24, .inl (cJ, 31, .inr (.inl rk_z64))), (q_33, .inl (cJ, 3721, .inr (.inl rk_z64))), (q_42, .inl (cJ, 1722, .inr (.inl rk_z64))), (q_49, .inl (cI, 4, .inl rk_z32)), (q_57, .inl (cI, 60, .inl rk_z32)), (q_65, .inl (cI, 60, .inl rk_z32)), (q_73, .inl (cI, 64, .inl rk_z32)), (q_81, .inl (cI, 64, .inl rk_z32)), (q_89, .inl (cJ, 64, .inr (.inl rk_z64))), (q_96, .inl (cI, 4, .inl rk_z32)), (q_104, .inl (cI, 10, .inl rk_z32)), (q_112, .inl (cI, 40, .inl rk_z32)), (q_120, .inl (cJ, 10, .inr (.inl rk_z64)))] := hD
                refine lv_iinc (v := (b135_l2 + 1)) (lv' := [(2, .int (b135_l2 + 1)), (0, .ref a_this), (1, .int b127_l1)]) hx hb dX10_init_193 hl (k := 2) rfl rfl (by decide) rfl (fun ls hl => ?_)
                refine lv_goto (tgt := 135) hx hb dX10_init_196 (by decide) ?_
                exact ih135 (b135_l2 + 1) (vp_updL b135_c_new_8 (((61 : Int32) * b127_l1) + b135_l2).toNatClampNeg b192_t2) h _ _ hP hD hS _ (lv_sub hl [1, 2, 0] rfl)
              have B159 : fX10_init_B159 b127_l1 b135_l2 b135_c_new_8 (rk_it2 (fX10_init_L135 b127_l1 (rk_it2 (fX10_init_L127) n127)) n135) = some r0 → ∀ (H : Heap) (locs : List Loc), va_P D vwCl [(a_this, .inr (9, [.ref q_8, .ref q_16, .ref q_24, .ref q_33, .ref q_42, .int 0, .ref q_49, .ref q_57, .ref q_65, .ref q_73, .ref q_81, .ref q_89, .ref q_96, .int 0, .ref q_104, .ref q_112, .ref q_120])), (q_8, .inl (cJ, 3721, .inr (.inl b135_c_new_8))), (q_16, .inl (cJ, 21, .inr (.inl rk_z64))), (q_24, .inl (cJ, 31, .inr (.inl rk_z64))), (q_33, .inl (cJ, 3721, .inr (.inl rk_z64))), (q_42, .inl (cJ, 1722, .inr (.inl rk_z64))), (q_49, .inl (cI, 4, .inl rk_z32)), (q_57, .inl (cI, 60, .inl rk_z32)), (q_65, .inl (cI, 60, .inl rk_z32)), (q_73, .inl (cI, 64, .inl rk_z32)), (q_81, .inl (cI, 64, .inl rk_z32)), (q_89, .inl (cJ, 64, .inr (.inl rk_z64))), (q_96, .inl (cI, 4, .inl rk_z32)), (q_104, .inl (cI, 10, .inl rk_z32)), (q_112, .inl (cI, 40, .inl rk_z32)), (q_120, .inl (cJ, 10, .inr (.inl rk_z64)))] H → va_D A [(a_this, .inr (9, [.ref q_8, .ref q_16, .ref q_24, .ref q_33, .ref q_42, .int 0, .ref q_49, .ref q_57, .ref q_65, .ref q_73, .ref q_81, .ref q_89, .ref q_96, .int 0, .ref q_104, .ref q_112, .ref q_120])), (q_8, .inl (cJ, 3721, .inr (.inl b135_c_new_8))), (q_16, .inl (cJ, 21, .inr (.inl rk_z64))), (q_24, .inl (cJ, 31, .inr (.inl rk_z64))), (q_33, .inl (cJ, 3721, .inr (.inl rk_z64))), (q_42, .inl (cJ, 1722, .inr (.inl rk_z64))), (q_49, .inl (cI, 4, .inl rk_z32)), (q_57, .inl (cI, 60, .inl rk_z32)), (q_65, .inl (cI, 60, .inl rk_z32)), (q_73, .inl (cI, 64, .inl rk_z32)), (q_81, .inl (cI, 64, .inl rk_z32)), (q_89, .inl (cJ, 64, .inr (.inl rk_z64))), (q_96, .inl (cI, 4, .inl rk_z32)), (q_104, .inl (cI, 10, .inl rk_z32)), (q_112, .inl (cI, 40, .inl rk_z32)), (q_120, .inl (cJ, 10, .inr (.inl rk_z64)))] → va_S A s.heap H locs → ∀ (ls : Array Slot), lv_has ls 3 [(0, .ref a_this), (1, .int b127_l1), (2, .int b135_l2)] → W p l e rmX10_init s m args below meth c H locs 15 9596 Q (F0 m 159 ls [.int (((61 : Int32) * b127_l1) + b135_l2), .ref q_8]) := by
                intro  h H locs hP hD hS ls hl
                unfold fX10_init_B159 at h
                refine lv_lconst (v := 1) hx hb dX10_init_159 (by decide) ?_
                refine lv_goto (tgt := 192) hx hb dX10_init_160 (by decide) ?_
                exact B192 (1 : Int64) h _ _ hP hD hS _ hl
              refine lv_if_eq (tgt := 159) hx hb dX10_init_151 (by decide) (fun hc11 => ?_) (fun hc11 => ?_)
              · have h := rk_if hc11 h
                exact B159  h _ _ hP hD hS _ hl
              · have h := rk_nif hc11 h
                refine lv_iload_n hx hb dX10_init_154 rfl (lv_at hl 2 rfl) ?_
                refine lv_iload_n hx hb dX10_init_155 rfl (lv_at hl 1 rfl) ?_
                refine lv_icmp_ne (tgt := 163) hx hb dX10_init_156 (by decide) (fun hc12 => ?_) (fun hc12 => ?_)
                · have h := rk_if hc12 h
                  refine lv_aload_n hx hb dX10_init_163 rfl (lv_at hl 0 rfl) ?_
                  refine va_get (D := D) (ci := 9) (v := .ref q_8) (C := RX10) (T := TX10) (N := 17) hx hb htc inX10 hown hV.1 hP 0 rfl rfl 0 (by decide) (htc _ w_3_238) (fun _ h9 => h9) rfl dX10_init_164 ?_
                  refine lv_bipush (v := 61) hx hb dX10_init_167 (by decide) ?_
                  refine lv_iload_n hx hb dX10_init_169 rfl (lv_at hl 1 rfl) ?_
                  refine lv_iconst (v := 1) hx hb dX10_init_170 (by decide) ?_
                  refine lv_isub hx hb dX10_init_171 ?_
                  refine lv_imul hx hb dX10_init_172 ?_
                  refine lv_iload_n hx hb dX10_init_173 rfl (lv_at hl 2 rfl) ?_
                  refine lv_iadd hx hb dX10_init_174 ?_
                  refine lv_iconst (v := 1) hx hb dX10_init_175 (by decide) ?_
                  refine lv_isub hx hb dX10_init_176 ?_
                  obtain ⟨hg13, h⟩ := rk_gd h
                  refine va_lald hx hb hV.1 hP 1 1 rfl rfl hg13 dX10_init_177 ?_
                  refine lv_aload_n hx hb dX10_init_178 rfl (lv_at hl 0 rfl) ?_
                  refine va_get (D := D) (ci := 9) (v := .ref q_8) (C := RX10) (T := TX10) (N := 17) hx hb htc inX10 hown hV.1 hP 0 rfl rfl 0 (by decide) (htc _ w_3_238) (fun _ h9 => h9) rfl dX10_init_179 ?_
                  refine lv_bipush (v := 61) hx hb dX10_init_182 (by decide) ?_
                  refine lv_iload_n hx hb dX10_init_184 rfl (lv_at hl 1 rfl) ?_
                  refine lv_iconst (v := 1) hx hb dX10_init_185 (by decide) ?_
                  refine lv_isub hx hb dX10_init_186 ?_
                  refine lv_imul hx hb dX10_init_187 ?_
                  refine lv_iload_n hx hb dX10_init_188 rfl (lv_at hl 2 rfl) ?_
                  refine lv_iadd hx hb dX10_init_189 ?_
                  obtain ⟨hg14, h⟩ := rk_gd h
                  refine va_lald hx hb hV.1 hP 1 1 rfl rfl hg14 dX10_init_190 ?_
                  refine lv_ladd hx hb dX10_init_191 ?_
                  exact B192 ((b135_c_new_8 ((((61 : Int32) * (b127_l1 - (1 : Int32))) + b135_l2) - (1 : Int32)).toNatClampNeg) + (b135_c_new_8 (((61 : Int32) * (b127_l1 - (1 : Int32))) + b135_l2).toNatClampNeg)) h _ _ hP hD hS _ hl
                · have h := rk_nnif hc12 h
                  exact B159  h _ _ hP hD hS _ hl
        exact L135 FU (0 : Int32) b127_c_new_8 h _ _ hP hD hS _ (lv_sub hl [1, 2, 0] rfl)
  exact L127 FU (0 : Int32) rk_z64 h _ _ hP hD hS _ (lv_sub hl [1, 0] rfl)
set_option maxHeartbeats 4000000 in
set_option maxRecDepth 100000 in
theorem mtX10_within (l : Launch) (D : va_G) (cI cJ cO : ClassId) (PL : va_W) (sz : Nat) (v_p0 : Int64) (v_p2 : Int64) (v_p4 : Int64) (r0 : Int32) (h : fX10_within v_p0 v_p2 v_p4 = some r0) : Met l yX10_within (rk_w yX10_within cX10_within 6 (some .boolean)) rmX10_within (va_Pc [.long v_p0, .long v_p2, .long v_p4] (rk_B D (rk_TY cI cJ cO) [] [] PL sz)) (rk_Qi r0 D [] [] sz) 0 0 (va_A [] sz) := by
  refine rk_metz h (fun x : Int32 => x) (fun x => []) (by decide) (Nat.le_of_ble_eq_true rfl) ?_
  intro p e s m args below meth c A ls Q hret hname hF hP hD hA hV hR0 hn hPL hnl hl h hS
  have hx := hF.1
  have hb := hF.2.1
  have hml := hF.2.2.1
  have hown : s.vm.findClass RX10 = some m.cls := hF.2.2.2.1
  have htc := hF.2.2.2.2
  have hP : va_P D vwCl [] s.heap := hP
  have hD : va_D A [] := hD
  have hR0 : va_P D vwCl [] s.heap := hR0
  have hR := hR0
  have hl : lv_has ls 6 [(0, .long v_p0), (2, .long v_p2), (4, .long v_p4)] := hl
  unfold fX10_within at h
  refine lv_lload_n hx hb dX10_within_0 rfl (lv_at hl 0 rfl) ?_
  refine lv_lload_n hx hb dX10_within_1 rfl (lv_at hl 1 rfl) ?_
  have B17 : fX10_within_B17 = some r0 → ∀ (H : Heap) (locs : List Loc), va_P D vwCl [] H → va_D A [] → va_S A s.heap H locs → ∀ (ls : Array Slot), lv_has ls 6 [] → W p l e rmX10_within s m args below meth c H locs 0 0 Q (F0 m 17 ls []) := by
    intro  h H locs hP hD hS ls hl
    unfold fX10_within_B17 at h
    refine lv_iconst (v := 0) hx hb dX10_within_17 (by decide) ?_
    exact hret (0 : Int32) _ _ _ _ h rk_nb0 dX10_within_18 hP hD hS
  refine rk_lclt (tgt := 17) hx hb dX10_within_2 dX10_within_3 (by decide) (fun hc1 => ?_) (fun hc1 => ?_)
  · have h := rk_if hc1 h
    exact B17  h _ _ hP hD hS _ (lv_sub hl [] rfl)
  · have h := rk_nif hc1 h
    refine lv_lload_n hx hb dX10_within_6 rfl (lv_at hl 0 rfl) ?_
    refine lv_lload hx hb dX10_within_7 (lv_at hl 2 rfl) ?_
    refine rk_lcgt (tgt := 17) hx hb dX10_within_9 dX10_within_10 (by decide) (fun hc2 => ?_) (fun hc2 => ?_)
    · have h := rk_if hc2 h
      exact B17  h _ _ hP hD hS _ (lv_sub hl [] rfl)
    · have h := rk_nif hc2 h
      refine lv_iconst (v := 1) hx hb dX10_within_13 (by decide) ?_
      refine lv_goto (tgt := 18) hx hb dX10_within_14 (by decide) ?_
      exact hret (1 : Int32) _ _ _ _ h rk_nb1 dX10_within_18 hP hD hS
set_option maxHeartbeats 4000000 in
set_option maxRecDepth 100000 in
theorem mtX10_choose (l : Launch) (D : va_G) (cI cJ cO : ClassId) (PL : va_W) (sz : Nat) (a_this : Nat) (a_this_chosen : Nat) (a_this_factorial : Nat) (a_this_catalan : Nat) (a_this_parted : Nat) (a_this_closed : Nat) (f_this_now : Int32) (a_this_of : Nat) (a_this_buffer : Nat) (a_this_made : Nat) (a_this_stackOne : Nat) (a_this_stackOther : Nat) (a_this_stackLong : Nat) (a_this_left : Nat) (f_this_entryMany : Int32) (a_this_entryFamily : Nat) (a_this_entryOf : Nat) (a_this_entryRank : Nat) (c_this_chosen : Nat → Int64) (v_p1 : Int32) (v_p2 : Int32) (r0 : Int64) (h : fX10_choose c_this_chosen v_p1 v_p2 = some r0) : Met l yX10_choose (rk_w yX10_choose cX10_choose 3 (some .long)) rmX10_choose (va_Pc [.ref a_this, .int v_p1, .int v_p2] (rk_B D (rk_TY cI cJ cO) [] [(a_this, .inr (9, [.ref a_this_chosen, .ref a_this_factorial, .ref a_this_catalan, .ref a_this_parted, .ref a_this_closed, .int f_this_now, .ref a_this_of, .ref a_this_buffer, .ref a_this_made, .ref a_this_stackOne, .ref a_this_stackOther, .ref a_this_stackLong, .ref a_this_left, .int f_this_entryMany, .ref a_this_entryFamily, .ref a_this_entryOf, .ref a_this_entryRank])), (a_this_chosen, .inl (cJ, 3721, .inr (.inl c_this_chosen)))] PL sz)) (rk_Ql r0 D [] [] sz) 0 0 (va_A [] sz) := by
  refine rk_metl h (fun x : Int64 => x) (fun x => []) (by decide) (Nat.le_of_ble_eq_true rfl) ?_
  intro p e s m args below meth c A ls Q hret hname hF hP hD hA hV hR0 hn hPL hnl hl h hS
  have hx := hF.1
  have hb := hF.2.1
  have hml := hF.2.2.1
  have hown : s.vm.findClass RX10 = some m.cls := hF.2.2.2.1
  have htc := hF.2.2.2.2
  have hP : va_P D vwCl [] s.heap := hP
  have hD : va_D A [] := hD
  have hR0 : va_P D vwCl [(a_this, .inr (9, [.ref a_this_chosen, .ref a_this_factorial, .ref a_this_catalan, .ref a_this_parted, .ref a_this_closed, .int f_this_now, .ref a_this_of, .ref a_this_buffer, .ref a_this_made, .ref a_this_stackOne, .ref a_this_stackOther, .ref a_this_stackLong, .ref a_this_left, .int f_this_entryMany, .ref a_this_entryFamily, .ref a_this_entryOf, .ref a_this_entryRank])), (a_this_chosen, .inl (cJ, 3721, .inr (.inl c_this_chosen)))] s.heap := hR0
  have hR := hR0
  have hl : lv_has ls 3 [(0, .ref a_this), (1, .int v_p1), (2, .int v_p2)] := hl
  unfold fX10_choose at h
  refine lv_iload_n hx hb dX10_choose_0 rfl (lv_at hl 2 rfl) ?_
  have B9 : fX10_choose_B9 = some r0 → ∀ (H : Heap) (locs : List Loc), va_P D vwCl [] H → va_D A [] → va_S A s.heap H locs → ∀ (ls : Array Slot), lv_has ls 3 [] → W p l e rmX10_choose s m args below meth c H locs 0 0 Q (F0 m 9 ls []) := by
    intro  h H locs hP hD hS ls hl
    unfold fX10_choose_B9 at h
    have hR := rk_keep hR0 hn hS
    refine lv_lconst (v := 0) hx hb dX10_choose_9 (by decide) ?_
    refine lv_goto (tgt := 24) hx hb dX10_choose_10 (by decide) ?_
    exact hret (0 : Int64) _ _ _ _ h dX10_choose_24 hP hD hS
  refine lv_if_lt (tgt := 9) hx hb dX10_choose_1 (by decide) (fun hc1 => ?_) (fun hc1 => ?_)
  · have h := rk_if hc1 h
    exact B9  h _ _ hP hD hS _ (lv_sub hl [] rfl)
  · have h := rk_nif hc1 h
    refine lv_iload_n hx hb dX10_choose_4 rfl (lv_at hl 2 rfl) ?_
    refine lv_iload_n hx hb dX10_choose_5 rfl (lv_at hl 1 rfl) ?_
    refine lv_icmp_le (tgt := 13) hx hb dX10_choose_6 (by decide) (fun hc2 => ?_) (fun hc2 => ?_)
    · have h := rk_if hc2 h
      refine lv_aload_n hx hb dX10_choose_13 rfl (lv_at hl 0 rfl) ?_
      refine va_get (D := D) (ci := 9) (v := .ref a_this_chosen) (C := RX10) (T := TX10) (N := 17) hx hb htc inX10 hown hV.1 hR 0 rfl rfl 0 (by decide) (htc _ w_3_238) (fun _ h9 => h9) rfl dX10_choose_14 ?_
      refine lv_bipush (v := 61) hx hb dX10_choose_17 (by decide) ?_
      refine lv_iload_n hx hb dX10_choose_19 rfl (lv_at hl 1 rfl) ?_
      refine lv_imul hx hb dX10_choose_20 ?_
      refine lv_iload_n hx hb dX10_choose_21 rfl (lv_at hl 2 rfl) ?_
      refine lv_iadd hx hb dX10_choose_22 ?_
      obtain ⟨hg3, h⟩ := rk_gd h
      refine va_lald hx hb hV.1 hR 1 1 rfl rfl hg3 dX10_choose_23 ?_
      exact hret (c_this_chosen (((61 : Int32) * v_p1) + v_p2).toNatClampNeg) _ _ _ _ h dX10_choose_24 hP hD hS
    · have h := rk_nif hc2 h
      exact B9  h _ _ hP hD hS _ (lv_sub hl [] rfl)
set_option maxHeartbeats 4000000 in
set_option maxRecDepth 100000 in
theorem mtX10_waysOn (l : Launch) (D : va_G) (cI cJ cO : ClassId) (PL : va_W) (sz : Nat) (a_this : Nat) (a_this_chosen : Nat) (a_this_factorial : Nat) (a_this_catalan : Nat) (a_this_parted : Nat) (a_this_closed : Nat) (f_this_now : Int32) (a_this_of : Nat) (a_this_buffer : Nat) (a_this_made : Nat) (a_this_stackOne : Nat) (a_this_stackOther : Nat) (a_this_stackLong : Nat) (a_this_left : Nat) (f_this_entryMany : Int32) (a_this_entryFamily : Nat) (a_this_entryOf : Nat) (a_this_entryRank : Nat) (c_this_closed : Nat → Int64) (v_p1 : Int32) (v_p2 : Int32) (v_p3 : Int32) (r0 : Int64) (h : fX10_waysOn c_this_closed v_p1 v_p2 v_p3 = some r0) : Met l yX10_waysOn (rk_w yX10_waysOn cX10_waysOn 6 (some .long)) rmX10_waysOn (va_Pc [.ref a_this, .int v_p1, .int v_p2, .int v_p3] (rk_B D (rk_TY cI cJ cO) [] [(a_this, .inr (9, [.ref a_this_chosen, .ref a_this_factorial, .ref a_this_catalan, .ref a_this_parted, .ref a_this_closed, .int f_this_now, .ref a_this_of, .ref a_this_buffer, .ref a_this_made, .ref a_this_stackOne, .ref a_this_stackOther, .ref a_this_stackLong, .ref a_this_left, .int f_this_entryMany, .ref a_this_entryFamily, .ref a_this_entryOf, .ref a_this_entryRank])), (a_this_closed, .inl (cJ, 1722, .inr (.inl c_this_closed)))] PL sz)) (rk_Ql r0 D [] [] sz) 0 0 (va_A [] sz) := by
  refine rk_metl h (fun x : Int64 => x) (fun x => []) (by decide) (Nat.le_of_ble_eq_true rfl) ?_
  intro p e s m args below meth c A ls Q hret hname hF hP hD hA hV hR0 hn hPL hnl hl h hS
  have hx := hF.1
  have hb := hF.2.1
  have hml := hF.2.2.1
  have hown : s.vm.findClass RX10 = some m.cls := hF.2.2.2.1
  have htc := hF.2.2.2.2
  have hP : va_P D vwCl [] s.heap := hP
  have hD : va_D A [] := hD
  have hR0 : va_P D vwCl [(a_this, .inr (9, [.ref a_this_chosen, .ref a_this_factorial, .ref a_this_catalan, .ref a_this_parted, .ref a_this_closed, .int f_this_now, .ref a_this_of, .ref a_this_buffer, .ref a_this_made, .ref a_this_stackOne, .ref a_this_stackOther, .ref a_this_stackLong, .ref a_this_left, .int f_this_entryMany, .ref a_this_entryFamily, .ref a_this_entryOf, .ref a_this_entryRank])), (a_this_closed, .inl (cJ, 1722, .inr (.inl c_this_closed)))] s.heap := hR0
  have hR := hR0
  have hl : lv_has ls 6 [(0, .ref a_this), (1, .int v_p1), (2, .int v_p2), (3, .int v_p3)] := hl
  unfold fX10_waysOn at h
  refine lv_iload_n hx hb dX10_waysOn_0 rfl (lv_at hl 2 rfl) ?_
  refine lv_iload_n hx hb dX10_waysOn_1 rfl (lv_at hl 1 rfl) ?_
  refine lv_icmp_le (tgt := 7) hx hb dX10_waysOn_2 (by decide) (fun hc1 => ?_) (fun hc1 => ?_)
  · have h := rk_if hc1 h
    refine lv_aload_n hx hb dX10_waysOn_7 rfl (lv_at hl 0 rfl) ?_
    refine va_get (D := D) (ci := 9) (v := .ref a_this_closed) (C := RX10) (T := TX10) (N := 17) hx hb htc inX10 hown hV.1 hR 0 rfl rfl 4 (by decide) (htc _ w_4_2) (fun _ h9 => h9) rfl dX10_waysOn_8 ?_
    refine lv_bipush (v := 42) hx hb dX10_waysOn_11 (by decide) ?_
    refine lv_iload_n hx hb dX10_waysOn_13 rfl (lv_at hl 1 rfl) ?_
    refine lv_imul hx hb dX10_waysOn_14 ?_
    refine lv_iload_n hx hb dX10_waysOn_15 rfl (lv_at hl 2 rfl) ?_
    refine lv_iadd hx hb dX10_waysOn_16 ?_
    obtain ⟨hg2, h⟩ := rk_gd h
    refine va_lald hx hb hV.1 hR 1 1 rfl rfl hg2 dX10_waysOn_17 ?_
    refine lv_lstore (lv' := [(4, .long (c_this_closed (((42 : Int32) * v_p1) + v_p2).toNatClampNeg)), (0, .ref a_this), (1, .int v_p1), (2, .int v_p2), (3, .int v_p3)]) hx hb dX10_waysOn_18 hl (by decide) rfl (fun ls hl => ?_)
    refine lv_iload_n hx hb dX10_waysOn_20 rfl (lv_at hl 4 rfl) ?_
    refine lv_iconst (v := 2) hx hb dX10_waysOn_21 (by decide) ?_
    refine lv_icmp_ne (tgt := 36) hx hb dX10_waysOn_22 (by decide) (fun hc3 => ?_) (fun hc3 => ?_)
    · have h := rk_if hc3 h
      refine lv_lload hx hb dX10_waysOn_36 (lv_at hl 0 rfl) ?_
      exact hret (c_this_closed (((42 : Int32) * v_p1) + v_p2).toNatClampNeg) _ _ _ _ h dX10_waysOn_38 hP hD hS
    · have h := rk_nnif hc3 h
      refine lv_lload hx hb dX10_waysOn_25 (lv_at hl 0 rfl) ?_
      refine lv_iload_n hx hb dX10_waysOn_27 rfl (lv_at hl 2 rfl) ?_
      refine lv_iload_n hx hb dX10_waysOn_28 rfl (lv_at hl 3 rfl) ?_
      refine lv_isub hx hb dX10_waysOn_29 ?_
      refine lv_iconst (v := 2) hx hb dX10_waysOn_30 (by decide) ?_
      refine lv_idiv hx hb dX10_waysOn_31 (by decide) ?_
      refine lv_lshl hx hb dX10_waysOn_32 rfl ?_
      refine lv_goto (tgt := 38) hx hb dX10_waysOn_33 (by decide) ?_
      exact hret ((c_this_closed (((42 : Int32) * v_p1) + v_p2).toNatClampNeg) <<< (((v_p1 - v_p2) / (2 : Int32)).toInt64 &&& 63)) _ _ _ _ h dX10_waysOn_38 hP hD hS
  · have h := rk_nif hc1 h
    refine lv_lconst (v := 0) hx hb dX10_waysOn_5 (by decide) ?_
    exact hret (0 : Int64) _ _ _ _ h dX10_waysOn_6 hP hD hS
set_option maxHeartbeats 4000000 in
set_option maxRecDepth 100000 in
theorem mtX10_arranged (l : Launch) (D : va_G) (cI cJ cO : ClassId) (PL : va_W) (sz : Nat) (a_this : Nat) (a_this_chosen : Nat) (a_this_factorial : Nat) (a_this_catalan : Nat) (a_this_parted : Nat) (a_this_closed : Nat) (f_this_now : Int32) (a_this_of : Nat) (a_this_buffer : Nat) (a_this_made : Nat) (a_this_stackOne : Nat) (a_this_stackOther : Nat) (a_this_stackLong : Nat) (a_this_left : Nat) (f_this_entryMany : Int32) (a_this_entryFamily : Nat) (a_this_entryOf : Nat) (a_this_entryRank : Nat) (c_this_chosen : Nat → Int64) (v_p1 : Int32) (v_p2 : Int32) (v_p3 : Int32) (v_p4 : Int32) (r0 : Int64) (h : fX10_arranged c_this_chosen v_p1 v_p2 v_p3 v_p4 = some r0) : Met l yX10_arranged (rk_w yX10_arranged cX10_arranged 5 (some .long)) rmX10_arranged (va_Pc [.ref a_this, .int v_p1, .int v_p2, .int v_p3, .int v_p4] (rk_B D (rk_TY cI cJ cO) [] [(a_this, .inr (9, [.ref a_this_chosen, .ref a_this_factorial, .ref a_this_catalan, .ref a_this_parted, .ref a_this_closed, .int f_this_now, .ref a_this_of, .ref a_this_buffer, .ref a_this_made, .ref a_this_stackOne, .ref a_this_stackOther, .ref a_this_stackLong, .ref a_this_left, .int f_this_entryMany, .ref a_this_entryFamily, .ref a_this_entryOf, .ref a_this_entryRank])), (a_this_chosen, .inl (cJ, 3721, .inr (.inl c_this_chosen)))] PL sz)) (rk_Ql r0 D [] [] sz) 0 0 (va_A [] sz) := by
  refine rk_metl h (fun x : Int64 => x) (fun x => []) (by decide) (Nat.le_of_ble_eq_true rfl) ?_
  intro p e s m args below meth c A ls Q hret hname hF hP hD hA hV hR0 hn hPL hnl hl h hS
  have hx := hF.1
  have hb := hF.2.1
  have hml := hF.2.2.1
  have hown : s.vm.findClass RX10 = some m.cls := hF.2.2.2.1
  have htc := hF.2.2.2.2
  have hP : va_P D vwCl [] s.heap := hP
  have hD : va_D A [] := hD
  have hR0 : va_P D vwCl [(a_this, .inr (9, [.ref a_this_chosen, .ref a_this_factorial, .ref a_this_catalan, .ref a_this_parted, .ref a_this_closed, .int f_this_now, .ref a_this_of, .ref a_this_buffer, .ref a_this_made, .ref a_this_stackOne, .ref a_this_stackOther, .ref a_this_stackLong, .ref a_this_left, .int f_this_entryMany, .ref a_this_entryFamily, .ref a_this_entryOf, .ref a_this_entryRank])), (a_this_chosen, .inl (cJ, 3721, .inr (.inl c_this_chosen)))] s.heap := hR0
  have hR := hR0
  have hl : lv_has ls 5 [(0, .ref a_this), (1, .int v_p1), (2, .int v_p2), (3, .int v_p3), (4, .int v_p4)] := hl
  unfold fX10_arranged at h
  refine lv_aload_n hx hb dX10_arranged_0 rfl (lv_at hl 0 rfl) ?_
  refine lv_iload_n hx hb dX10_arranged_1 rfl (lv_at hl 1 rfl) ?_
  refine lv_iload_n hx hb dX10_arranged_2 rfl (lv_at hl 2 rfl) ?_
  refine lv_iadd hx hb dX10_arranged_3 ?_
  refine lv_iload_n hx hb dX10_arranged_4 rfl (lv_at hl 3 rfl) ?_
  refine lv_iadd hx hb dX10_arranged_5 ?_
  refine lv_iload hx hb dX10_arranged_6 (lv_at hl 4 rfl) ?_
  refine lv_iadd hx hb dX10_arranged_8 ?_
  refine lv_iload_n hx hb dX10_arranged_9 rfl (lv_at hl 1 rfl) ?_
  obtain ⟨r_10, hc_10, h⟩ := rk_bd h
  refine rk_l (wr := []) (va_runV (C := RX10) (As := [.int (((v_p1 + v_p2) + v_p3) + v_p4), .int v_p1]) (rest := []) hF (mtX10_choose l D cI cJ cO PL _ a_this a_this_chosen a_this_factorial a_this_catalan a_this_parted a_this_closed f_this_now a_this_of a_this_buffer a_this_made a_this_stackOne a_this_stackOther a_this_stackLong a_this_left f_this_entryMany a_this_entryFamily a_this_entryOf a_this_entryRank c_this_chosen (((v_p1 + v_p2) + v_p3) + v_p4) v_p1 r_10 hc_10) (cwV 2 htc (rk_gV w_4_75 w_4_77 ws_39 w_1_7 w_4_78) rfl rfl rfl (by decide +kernel) ⟨(Nat.le_of_ble_eq_true rfl), (Nat.le_of_ble_eq_true rfl)⟩) (rk_preV (va_recv hV.1 hR (ci := 9) (q0 := 0) rfl rfl) (rk_preS hP hD hS hR hn hPL hnl hV [] [(false, 0), (false, 1)] rfl (by decide) rfl (by decide))) rfl rfl hl.1 rfl (lv_room (Nat.le_of_ble_eq_true rfl)) dX10_arranged_10 ⟨(Nat.le_of_ble_eq_true rfl), (Nat.le_of_ble_eq_true rfl)⟩) hP hD hS hA hR0 hn [] [] rfl rfl (by decide) (by decide) (fun H locs hP hD hS hR => ?_)
  have hP : va_P D vwCl [] H := hP
  have hD : va_D A [] := hD
  refine lv_aload_n hx hb dX10_arranged_13 rfl (lv_at hl 0 rfl) ?_
  refine lv_iload_n hx hb dX10_arranged_14 rfl (lv_at hl 2 rfl) ?_
  refine lv_iload_n hx hb dX10_arranged_15 rfl (lv_at hl 3 rfl) ?_
  refine lv_iadd hx hb dX10_arranged_16 ?_
  refine lv_iload hx hb dX10_arranged_17 (lv_at hl 4 rfl) ?_
  refine lv_iadd hx hb dX10_arranged_19 ?_
  refine lv_iload_n hx hb dX10_arranged_20 rfl (lv_at hl 2 rfl) ?_
  obtain ⟨r_21, hc_21, h⟩ := rk_bd h
  refine rk_l (wr := []) (va_runV (C := RX10) (As := [.int ((v_p2 + v_p3) + v_p4), .int v_p2]) (rest := [.long r_10]) hF (mtX10_choose l D cI cJ cO PL _ a_this a_this_chosen a_this_factorial a_this_catalan a_this_parted a_this_closed f_this_now a_this_of a_this_buffer a_this_made a_this_stackOne a_this_stackOther a_this_stackLong a_this_left f_this_entryMany a_this_entryFamily a_this_entryOf a_this_entryRank c_this_chosen ((v_p2 + v_p3) + v_p4) v_p2 r_21 hc_21) (cwV 2 htc (rk_gV w_4_75 w_4_77 ws_39 w_1_7 w_4_78) rfl rfl rfl (by decide +kernel) ⟨(Nat.le_of_ble_eq_true rfl), (Nat.le_of_ble_eq_true rfl)⟩) (rk_preV (va_recv hV.1 hR (ci := 9) (q0 := 0) rfl rfl) (rk_preS hP hD hS hR hn hPL hnl hV [] [(false, 0), (false, 1)] rfl (by decide) rfl (by decide))) rfl rfl hl.1 rfl (lv_room (Nat.le_of_ble_eq_true rfl)) dX10_arranged_21 ⟨(Nat.le_of_ble_eq_true rfl), (Nat.le_of_ble_eq_true rfl)⟩) hP hD hS hA hR0 hn [] [] rfl rfl (by decide) (by decide) (fun H locs hP hD hS hR => ?_)
  have hP : va_P D vwCl [] H := hP
  have hD : va_D A [] := hD
  refine lv_lmul hx hb dX10_arranged_24 ?_
  refine lv_aload_n hx hb dX10_arranged_25 rfl (lv_at hl 0 rfl) ?_
  refine lv_iload_n hx hb dX10_arranged_26 rfl (lv_at hl 3 rfl) ?_
  refine lv_iload hx hb dX10_arranged_27 (lv_at hl 4 rfl) ?_
  refine lv_iadd hx hb dX10_arranged_29 ?_
  refine lv_iload_n hx hb dX10_arranged_30 rfl (lv_at hl 3 rfl) ?_
  obtain ⟨r_31, hc_31, h⟩ := rk_bd h
  refine rk_l (wr := []) (va_runV (C := RX10) (As := [.int (v_p3 + v_p4), .int v_p3]) (rest := [.long (r_10 * r_21)]) hF (mtX10_choose l D cI cJ cO PL _ a_this a_this_chosen a_this_factorial a_this_catalan a_this_parted a_this_closed f_this_now a_this_of a_this_buffer a_this_made a_this_stackOne a_this_stackOther a_this_stackLong a_this_left f_this_entryMany a_this_entryFamily a_this_entryOf a_this_entryRank c_this_chosen (v_p3 + v_p4) v_p3 r_31 hc_31) (cwV 2 htc (rk_gV w_4_75 w_4_77 ws_39 w_1_7 w_4_78) rfl rfl rfl (by decide +kernel) ⟨(Nat.le_of_ble_eq_true rfl), (Nat.le_of_ble_eq_true rfl)⟩) (rk_preV (va_recv hV.1 hR (ci := 9) (q0 := 0) rfl rfl) (rk_preS hP hD hS hR hn hPL hnl hV [] [(false, 0), (false, 1)] rfl (by decide) rfl (by decide))) rfl rfl hl.1 rfl (lv_room (Nat.le_of_ble_eq_true rfl)) dX10_arranged_31 ⟨(Nat.le_of_ble_eq_true rfl), (Nat.le_of_ble_eq_true rfl)⟩) hP hD hS hA hR0 hn [] [] rfl rfl (by decide) (by decide) (fun H locs hP hD hS hR => ?_)
  have hP : va_P D vwCl [] H := hP
  have hD : va_D A [] := hD
  refine lv_lmul hx hb dX10_arranged_34 ?_
  exact hret ((r_10 * r_21) * r_31) _ _ _ _ h dX10_arranged_35 hP hD hS
set_option maxHeartbeats 4000000 in
set_option maxRecDepth 100000 in
theorem mtX10_countOf (l : Launch) (D : va_G) (cI cJ cO : ClassId) (PL : va_W) (sz : Nat) (a_this : Nat) (a_this_chosen : Nat) (a_this_factorial : Nat) (a_this_catalan : Nat) (a_this_parted : Nat) (a_this_closed : Nat) (f_this_now : Int32) (a_this_of : Nat) (a_this_buffer : Nat) (a_this_made : Nat) (a_this_stackOne : Nat) (a_this_stackOther : Nat) (a_this_stackLong : Nat) (a_this_left : Nat) (f_this_entryMany : Int32) (a_this_entryFamily : Nat) (a_this_entryOf : Nat) (a_this_entryRank : Nat) (c_this_catalan : Nat → Int64) (c_this_chosen : Nat → Int64) (c_this_closed : Nat → Int64) (c_this_factorial : Nat → Int64) (c_this_parted : Nat → Int64) (v_p1 : Int32) (v_p2 : Int32) (v_p3 : Int32) (v_p4 : Int32) (v_p5 : Int32) (r0 : Int64) (h : fX10_countOf c_this_catalan c_this_chosen c_this_closed c_this_factorial c_this_parted v_p1 v_p2 v_p3 v_p4 v_p5 = some r0) : Met l yX10_countOf (rk_w yX10_countOf cX10_countOf 6 (some .long)) rmX10_countOf (va_Pc [.ref a_this, .int v_p1, .int v_p2, .int v_p3, .int v_p4, .int v_p5] (rk_B D (rk_TY cI cJ cO) [] [(a_this, .inr (9, [.ref a_this_chosen, .ref a_this_factorial, .ref a_this_catalan, .ref a_this_parted, .ref a_this_closed, .int f_this_now, .ref a_this_of, .ref a_this_buffer, .ref a_this_made, .ref a_this_stackOne, .ref a_this_stackOther, .ref a_this_stackLong, .ref a_this_left, .int f_this_entryMany, .ref a_this_entryFamily, .ref a_this_entryOf, .ref a_this_entryRank])), (a_this_catalan, .inl (cJ, 31, .inr (.inl c_this_catalan))), (a_this_chosen, .inl (cJ, 3721, .inr (.inl c_this_chosen))), (a_this_closed, .inl (cJ, 1722, .inr (.inl c_this_closed))), (a_this_factorial, .inl (cJ, 21, .inr (.inl c_this_factorial))), (a_this_parted, .inl (cJ, 3721, .inr (.inl c_this_parted)))] PL sz)) (rk_Ql r0 D [] [] sz) 0 0 (va_A [] sz) := by
  refine rk_metl h (fun x : Int64 => x) (fun x => []) (by decide) (Nat.le_of_ble_eq_true rfl) ?_
  intro p e s m args below meth c A ls Q hret hname hF hP hD hA hV hR0 hn hPL hnl hl h hS
  have hx := hF.1
  have hb := hF.2.1
  have hml := hF.2.2.1
  have hown : s.vm.findClass RX10 = some m.cls := hF.2.2.2.1
  have htc := hF.2.2.2.2
  have hP : va_P D vwCl [] s.heap := hP
  have hD : va_D A [] := hD
  have hR0 : va_P D vwCl [(a_this, .inr (9, [.ref a_this_chosen, .ref a_this_factorial, .ref a_this_catalan, .ref a_this_parted, .ref a_this_closed, .int f_this_now, .ref a_this_of, .ref a_this_buffer, .ref a_this_made, .ref a_this_stackOne, .ref a_this_stackOther, .ref a_this_stackLong, .ref a_this_left, .int f_this_entryMany, .ref a_this_entryFamily, .ref a_this_entryOf, .ref a_this_entryRank])), (a_this_catalan, .inl (cJ, 31, .inr (.inl c_this_catalan))), (a_this_chosen, .inl (cJ, 3721, .inr (.inl c_this_chosen))), (a_this_closed, .inl (cJ, 1722, .inr (.inl c_this_closed))), (a_this_factorial, .inl (cJ, 21, .inr (.inl c_this_factorial))), (a_this_parted, .inl (cJ, 3721, .inr (.inl c_this_parted)))] s.heap := hR0
  have hR := hR0
  have hl : lv_has ls 6 [(0, .ref a_this), (1, .int v_p1), (2, .int v_p2), (3, .int v_p3), (4, .int v_p4), (5, .int v_p5)] := hl
  unfold fX10_countOf at h
  refine lv_iload_n hx hb dX10_countOf_0 rfl (lv_at hl 1 rfl) ?_
  by_cases hk1 : v_p1 = 0
  · have h := rk_if hk1 h
    refine lv_tableIn (off := 35) (tgt := 36) hx hb dX10_countOf_1 (by rw [hk1]; decide) (by rw [hk1]; decide) (by rw [hk1]; decide) (by decide) ?_
    refine lv_aload_n hx hb dX10_countOf_36 rfl (lv_at hl 0 rfl) ?_
    refine lv_iload_n hx hb dX10_countOf_37 rfl (lv_at hl 2 rfl) ?_
    refine lv_iload_n hx hb dX10_countOf_38 rfl (lv_at hl 3 rfl) ?_
    obtain ⟨r_39, hc_39, h⟩ := rk_bd h
    refine rk_l (wr := []) (va_runV (C := RX10) (As := [.int v_p2, .int v_p3]) (rest := []) hF (mtX10_choose l D cI cJ cO PL _ a_this a_this_chosen a_this_factorial a_this_catalan a_this_parted a_this_closed f_this_now a_this_of a_this_buffer a_this_made a_this_stackOne a_this_stackOther a_this_stackLong a_this_left f_this_entryMany a_this_entryFamily a_this_entryOf a_this_entryRank c_this_chosen v_p2 v_p3 r_39 hc_39) (cwV 2 htc (rk_gV w_4_75 w_4_77 ws_39 w_1_7 w_4_78) rfl rfl rfl (by decide +kernel) ⟨(Nat.le_of_ble_eq_true rfl), (Nat.le_of_ble_eq_true rfl)⟩) (rk_preV (va_recv hV.1 hR (ci := 9) (q0 := 0) rfl rfl) (rk_preS hP hD hS hR hn hPL hnl hV [] [(false, 0), (false, 2)] rfl (by decide) rfl (by decide))) rfl rfl hl.1 rfl (lv_room (Nat.le_of_ble_eq_true rfl)) dX10_countOf_39 ⟨(Nat.le_of_ble_eq_true rfl), (Nat.le_of_ble_eq_true rfl)⟩) hP hD hS hA hR0 hn [] [] rfl rfl (by decide) (by decide) (fun H locs hP hD hS hR => ?_)
    have hP : va_P D vwCl [] H := hP
    have hD : va_D A [] := hD
    exact hret r_39 _ _ _ _ h dX10_countOf_42 hP hD hS
  have h := rk_nif hk1 h
  by_cases hk2 : v_p1 = 1
  · have h := rk_if hk2 h
    refine lv_tableIn (off := 42) (tgt := 43) hx hb dX10_countOf_1 (by rw [hk2]; decide) (by rw [hk2]; decide) (by rw [hk2]; decide) (by decide) ?_
    refine lv_aload_n hx hb dX10_countOf_43 rfl (lv_at hl 0 rfl) ?_
    refine va_get (D := D) (ci := 9) (v := .ref a_this_factorial) (C := RX10) (T := TX10) (N := 17) hx hb htc inX10 hown hV.1 hR 0 rfl rfl 1 (by decide) (htc _ w_3_239) (fun _ h9 => h9) rfl dX10_countOf_44 ?_
    refine lv_iload_n hx hb dX10_countOf_47 rfl (lv_at hl 2 rfl) ?_
    obtain ⟨hg3, h⟩ := rk_gd h
    refine va_lald hx hb hV.1 hR 4 1 rfl rfl hg3 dX10_countOf_48 ?_
    exact hret (c_this_factorial v_p2.toNatClampNeg) _ _ _ _ h dX10_countOf_49 hP hD hS
  have h := rk_nif hk2 h
  by_cases hk4 : v_p1 = 2
  · have h := rk_if hk4 h
    refine lv_tableIn (off := 49) (tgt := 50) hx hb dX10_countOf_1 (by rw [hk4]; decide) (by rw [hk4]; decide) (by rw [hk4]; decide) (by decide) ?_
    refine lv_aload_n hx hb dX10_countOf_50 rfl (lv_at hl 0 rfl) ?_
    refine lv_iconst (v := 2) hx hb dX10_countOf_51 (by decide) ?_
    refine lv_iload_n hx hb dX10_countOf_52 rfl (lv_at hl 2 rfl) ?_
    refine lv_imul hx hb dX10_countOf_53 ?_
    refine lv_iconst (v := 0) hx hb dX10_countOf_54 (by decide) ?_
    refine lv_iload_n hx hb dX10_countOf_55 rfl (lv_at hl 3 rfl) ?_
    obtain ⟨r_56, hc_56, h⟩ := rk_bd h
    refine rk_l (wr := []) (va_runV (C := RX10) (As := [.int ((2 : Int32) * v_p2), .int (0 : Int32), .int v_p3]) (rest := []) hF (mtX10_waysOn l D cI cJ cO PL _ a_this a_this_chosen a_this_factorial a_this_catalan a_this_parted a_this_closed f_this_now a_this_of a_this_buffer a_this_made a_this_stackOne a_this_stackOther a_this_stackLong a_this_left f_this_entryMany a_this_entryFamily a_this_entryOf a_this_entryRank c_this_closed ((2 : Int32) * v_p2) (0 : Int32) v_p3 r_56 hc_56) (cwV 3 htc (rk_gV w_4_91 w_4_93 ws_43 w_1_7 w_4_94) rfl rfl rfl (by decide +kernel) ⟨(Nat.le_of_ble_eq_true rfl), (Nat.le_of_ble_eq_true rfl)⟩) (rk_preV (va_recv hV.1 hR (ci := 9) (q0 := 0) rfl rfl) (rk_preS hP hD hS hR hn hPL hnl hV [] [(false, 0), (false, 3)] rfl (by decide) rfl (by decide))) rfl rfl hl.1 rfl (lv_room (Nat.le_of_ble_eq_true rfl)) dX10_countOf_56 ⟨(Nat.le_of_ble_eq_true rfl), (Nat.le_of_ble_eq_true rfl)⟩) hP hD hS hA hR0 hn [] [] rfl rfl (by decide) (by decide) (fun H locs hP hD hS hR => ?_)
    have hP : va_P D vwCl [] H := hP
    have hD : va_D A [] := hD
    exact hret r_56 _ _ _ _ h dX10_countOf_59 hP hD hS
  have h := rk_nif hk4 h
  by_cases hk5 : v_p1 = 3
  · have h := rk_if hk5 h
    refine lv_tableIn (off := 59) (tgt := 60) hx hb dX10_countOf_1 (by rw [hk5]; decide) (by rw [hk5]; decide) (by rw [hk5]; decide) (by decide) ?_
    refine lv_aload_n hx hb dX10_countOf_60 rfl (lv_at hl 0 rfl) ?_
    refine va_get (D := D) (ci := 9) (v := .ref a_this_catalan) (C := RX10) (T := TX10) (N := 17) hx hb htc inX10 hown hV.1 hR 0 rfl rfl 2 (by decide) (htc _ w_4_0) (fun _ h9 => h9) rfl dX10_countOf_61 ?_
    refine lv_iload_n hx hb dX10_countOf_64 rfl (lv_at hl 2 rfl) ?_
    obtain ⟨hg6, h⟩ := rk_gd h
    refine va_lald hx hb hV.1 hR 1 1 rfl rfl hg6 dX10_countOf_65 ?_
    exact hret (c_this_catalan v_p2.toNatClampNeg) _ _ _ _ h dX10_countOf_66 hP hD hS
  have h := rk_nif hk5 h
  by_cases hk7 : v_p1 = 4
  · have h := rk_if hk7 h
    refine lv_tableIn (off := 66) (tgt := 67) hx hb dX10_countOf_1 (by rw [hk7]; decide) (by rw [hk7]; decide) (by rw [hk7]; decide) (by decide) ?_
    refine lv_aload_n hx hb dX10_countOf_67 rfl (lv_at hl 0 rfl) ?_
    refine va_get (D := D) (ci := 9) (v := .ref a_this_parted) (C := RX10) (T := TX10) (N := 17) hx hb htc inX10 hown hV.1 hR 0 rfl rfl 3 (by decide) (htc _ w_4_1) (fun _ h9 => h9) rfl dX10_countOf_68 ?_
    refine lv_bipush (v := 61) hx hb dX10_countOf_71 (by decide) ?_
    refine lv_iload_n hx hb dX10_countOf_73 rfl (lv_at hl 3 rfl) ?_
    refine lv_imul hx hb dX10_countOf_74 ?_
    refine lv_iload_n hx hb dX10_countOf_75 rfl (lv_at hl 2 rfl) ?_
    refine lv_iadd hx hb dX10_countOf_76 ?_
    obtain ⟨hg8, h⟩ := rk_gd h
    refine va_lald hx hb hV.1 hR 5 1 rfl rfl hg8 dX10_countOf_77 ?_
    exact hret (c_this_parted (((61 : Int32) * v_p3) + v_p2).toNatClampNeg) _ _ _ _ h dX10_countOf_78 hP hD hS
  have h := rk_nif hk7 h
  refine lv_tableOut (tgt := 79) hx hb dX10_countOf_1 (rk_tb5 hk1 hk2 hk4 hk5 hk7) (by decide) ?_
  refine lv_aload_n hx hb dX10_countOf_79 rfl (lv_at hl 0 rfl) ?_
  refine lv_iload_n hx hb dX10_countOf_80 rfl (lv_at hl 2 rfl) ?_
  refine lv_iload_n hx hb dX10_countOf_81 rfl (lv_at hl 3 rfl) ?_
  refine lv_iload hx hb dX10_countOf_82 (lv_at hl 4 rfl) ?_
  refine lv_iload hx hb dX10_countOf_84 (lv_at hl 5 rfl) ?_
  obtain ⟨r_86, hc_86, h⟩ := rk_bd h
  refine rk_l (wr := []) (va_runV (C := RX10) (As := [.int v_p2, .int v_p3, .int v_p4, .int v_p5]) (rest := []) hF (mtX10_arranged l D cI cJ cO PL _ a_this a_this_chosen a_this_factorial a_this_catalan a_this_parted a_this_closed f_this_now a_this_of a_this_buffer a_this_made a_this_stackOne a_this_stackOther a_this_stackLong a_this_left f_this_entryMany a_this_entryFamily a_this_entryOf a_this_entryRank c_this_chosen v_p2 v_p3 v_p4 v_p5 r_86 hc_86) (cwV 4 htc (rk_gV w_4_119 w_4_121 ws_50 w_1_7 w_4_122) rfl rfl rfl (by decide +kernel) ⟨(Nat.le_of_ble_eq_true rfl), (Nat.le_of_ble_eq_true rfl)⟩) (rk_preV (va_recv hV.1 hR (ci := 9) (q0 := 0) rfl rfl) (rk_preS hP hD hS hR hn hPL hnl hV [] [(false, 0), (false, 2)] rfl (by decide) rfl (by decide))) rfl rfl hl.1 rfl (lv_room (Nat.le_of_ble_eq_true rfl)) dX10_countOf_86 ⟨(Nat.le_of_ble_eq_true rfl), (Nat.le_of_ble_eq_true rfl)⟩) hP hD hS hA hR0 hn [] [] rfl rfl (by decide) (by decide) (fun H locs hP hD hS hR => ?_)
  have hP : va_P D vwCl [] H := hP
  have hD : va_D A [] := hD
  exact hret r_86 _ _ _ _ h dX10_countOf_89 hP hD hS
set_option maxHeartbeats 4000000 in
set_option maxRecDepth 100000 in
theorem mtX10_longNow (l : Launch) (D : va_G) (cI cJ cO : ClassId) (PL : va_W) (sz : Nat) (a_this : Nat) (a_this_chosen : Nat) (a_this_factorial : Nat) (a_this_catalan : Nat) (a_this_parted : Nat) (a_this_closed : Nat) (f_this_now : Int32) (a_this_of : Nat) (a_this_buffer : Nat) (a_this_made : Nat) (a_this_stackOne : Nat) (a_this_stackOther : Nat) (a_this_stackLong : Nat) (a_this_left : Nat) (f_this_entryMany : Int32) (a_this_entryFamily : Nat) (a_this_entryOf : Nat) (a_this_entryRank : Nat) (c_this_of : Nat → Int32) (r0 : Int32) (h : fX10_longNow f_this_now c_this_of = some r0) : Met l yX10_longNow (rk_w yX10_longNow cX10_longNow 1 (some .int)) rmX10_longNow (va_Pc [.ref a_this] (rk_B D (rk_TY cI cJ cO) [] [(a_this, .inr (9, [.ref a_this_chosen, .ref a_this_factorial, .ref a_this_catalan, .ref a_this_parted, .ref a_this_closed, .int f_this_now, .ref a_this_of, .ref a_this_buffer, .ref a_this_made, .ref a_this_stackOne, .ref a_this_stackOther, .ref a_this_stackLong, .ref a_this_left, .int f_this_entryMany, .ref a_this_entryFamily, .ref a_this_entryOf, .ref a_this_entryRank])), (a_this_of, .inl (cI, 4, .inl c_this_of))] PL sz)) (rk_Qi r0 D [] [] sz) 0 0 (va_A [] sz) := by
  refine rk_meti h (fun x : Int32 => x) (fun x => []) (by decide) (Nat.le_of_ble_eq_true rfl) ?_
  intro p e s m args below meth c A ls Q hret hname hF hP hD hA hV hR0 hn hPL hnl hl h hS
  have hx := hF.1
  have hb := hF.2.1
  have hml := hF.2.2.1
  have hown : s.vm.findClass RX10 = some m.cls := hF.2.2.2.1
  have htc := hF.2.2.2.2
  have hP : va_P D vwCl [] s.heap := hP
  have hD : va_D A [] := hD
  have hR0 : va_P D vwCl [(a_this, .inr (9, [.ref a_this_chosen, .ref a_this_factorial, .ref a_this_catalan, .ref a_this_parted, .ref a_this_closed, .int f_this_now, .ref a_this_of, .ref a_this_buffer, .ref a_this_made, .ref a_this_stackOne, .ref a_this_stackOther, .ref a_this_stackLong, .ref a_this_left, .int f_this_entryMany, .ref a_this_entryFamily, .ref a_this_entryOf, .ref a_this_entryRank])), (a_this_of, .inl (cI, 4, .inl c_this_of))] s.heap := hR0
  have hR := hR0
  have hl : lv_has ls 1 [(0, .ref a_this)] := hl
  unfold fX10_longNow at h
  refine lv_aload_n hx hb dX10_longNow_0 rfl (lv_at hl 0 rfl) ?_
  refine va_get (D := D) (ci := 9) (v := .int f_this_now) (C := RX10) (T := TX10) (N := 17) hx hb htc inX10 hown hV.1 hR 0 rfl rfl 5 (by decide) (htc _ w_4_3) (fun _ h9 => h9) rfl dX10_longNow_1 ?_
  refine lv_if_ne (tgt := 16) hx hb dX10_longNow_4 (by decide) (fun hc1 => ?_) (fun hc1 => ?_)
  · have h := rk_if hc1 h
    refine lv_aload_n hx hb dX10_longNow_16 rfl (lv_at hl 0 rfl) ?_
    refine va_get (D := D) (ci := 9) (v := .int f_this_now) (C := RX10) (T := TX10) (N := 17) hx hb htc inX10 hown hV.1 hR 0 rfl rfl 5 (by decide) (htc _ w_4_3) (fun _ h9 => h9) rfl dX10_longNow_17 ?_
    refine lv_iconst (v := 2) hx hb dX10_longNow_20 (by decide) ?_
    refine lv_icmp_ne (tgt := 35) hx hb dX10_longNow_21 (by decide) (fun hc2 => ?_) (fun hc2 => ?_)
    · have h := rk_if hc2 h
      refine lv_aload_n hx hb dX10_longNow_35 rfl (lv_at hl 0 rfl) ?_
      refine va_get (D := D) (ci := 9) (v := .int f_this_now) (C := RX10) (T := TX10) (N := 17) hx hb htc inX10 hown hV.1 hR 0 rfl rfl 5 (by decide) (htc _ w_4_3) (fun _ h9 => h9) rfl dX10_longNow_36 ?_
      refine lv_iconst (v := 5) hx hb dX10_longNow_39 (by decide) ?_
      refine lv_icmp_ne (tgt := 73) hx hb dX10_longNow_40 (by decide) (fun hc3 => ?_) (fun hc3 => ?_)
      · have h := rk_if hc3 h
        refine lv_aload_n hx hb dX10_longNow_73 rfl (lv_at hl 0 rfl) ?_
        refine va_get (D := D) (ci := 9) (v := .ref a_this_of) (C := RX10) (T := TX10) (N := 17) hx hb htc inX10 hown hV.1 hR 0 rfl rfl 6 (by decide) (htc _ w_4_4) (fun _ h9 => h9) rfl dX10_longNow_74 ?_
        refine lv_iconst (v := 0) hx hb dX10_longNow_77 (by decide) ?_
        refine va_iald hx hb hV.1 hR 1 0 rfl rfl (show vp_in (0 : Int32) 4 from (by decide : ¬ ((0 : Int32) < 0 ∨ 4 ≤ (0 : Int32).toNatClampNeg))) dX10_longNow_78 ?_
        refine W.eq (g2 := F0 m 79 ls [.int (c_this_of 0)]) rfl ?_
        exact hret (c_this_of 0) _ _ _ _ h dX10_longNow_79 hP hD hS
      · have h := rk_nnif hc3 h
        refine lv_aload_n hx hb dX10_longNow_43 rfl (lv_at hl 0 rfl) ?_
        refine va_get (D := D) (ci := 9) (v := .ref a_this_of) (C := RX10) (T := TX10) (N := 17) hx hb htc inX10 hown hV.1 hR 0 rfl rfl 6 (by decide) (htc _ w_4_4) (fun _ h9 => h9) rfl dX10_longNow_44 ?_
        refine lv_iconst (v := 0) hx hb dX10_longNow_47 (by decide) ?_
        refine va_iald hx hb hV.1 hR 1 0 rfl rfl (show vp_in (0 : Int32) 4 from (by decide : ¬ ((0 : Int32) < 0 ∨ 4 ≤ (0 : Int32).toNatClampNeg))) dX10_longNow_48 ?_
        refine W.eq (g2 := F0 m 49 ls [.int (c_this_of 0)]) rfl ?_
        refine lv_aload_n hx hb dX10_longNow_49 rfl (lv_at hl 0 rfl) ?_
        refine va_get (D := D) (ci := 9) (v := .ref a_this_of) (C := RX10) (T := TX10) (N := 17) hx hb htc inX10 hown hV.1 hR 0 rfl rfl 6 (by decide) (htc _ w_4_4) (fun _ h9 => h9) rfl dX10_longNow_50 ?_
        refine lv_iconst (v := 1) hx hb dX10_longNow_53 (by decide) ?_
        refine va_iald hx hb hV.1 hR 1 0 rfl rfl (show vp_in (1 : Int32) 4 from (by decide : ¬ ((1 : Int32) < 0 ∨ 4 ≤ (1 : Int32).toNatClampNeg))) dX10_longNow_54 ?_
        refine W.eq (g2 := F0 m 55 ls [.int (c_this_of 1), .int (c_this_of 0)]) rfl ?_
        refine lv_iadd hx hb dX10_longNow_55 ?_
        refine lv_aload_n hx hb dX10_longNow_56 rfl (lv_at hl 0 rfl) ?_
        refine va_get (D := D) (ci := 9) (v := .ref a_this_of) (C := RX10) (T := TX10) (N := 17) hx hb htc inX10 hown hV.1 hR 0 rfl rfl 6 (by decide) (htc _ w_4_4) (fun _ h9 => h9) rfl dX10_longNow_57 ?_
        refine lv_iconst (v := 2) hx hb dX10_longNow_60 (by decide) ?_
        refine va_iald hx hb hV.1 hR 1 0 rfl rfl (show vp_in (2 : Int32) 4 from (by decide : ¬ ((2 : Int32) < 0 ∨ 4 ≤ (2 : Int32).toNatClampNeg))) dX10_longNow_61 ?_
        refine W.eq (g2 := F0 m 62 ls [.int (c_this_of 2), .int ((c_this_of 0) + (c_this_of 1))]) rfl ?_
        refine lv_iadd hx hb dX10_longNow_62 ?_
        refine lv_aload_n hx hb dX10_longNow_63 rfl (lv_at hl 0 rfl) ?_
        refine va_get (D := D) (ci := 9) (v := .ref a_this_of) (C := RX10) (T := TX10) (N := 17) hx hb htc inX10 hown hV.1 hR 0 rfl rfl 6 (by decide) (htc _ w_4_4) (fun _ h9 => h9) rfl dX10_longNow_64 ?_
        refine lv_iconst (v := 3) hx hb dX10_longNow_67 (by decide) ?_
        refine va_iald hx hb hV.1 hR 1 0 rfl rfl (show vp_in (3 : Int32) 4 from (by decide : ¬ ((3 : Int32) < 0 ∨ 4 ≤ (3 : Int32).toNatClampNeg))) dX10_longNow_68 ?_
        refine W.eq (g2 := F0 m 69 ls [.int (c_this_of 3), .int (((c_this_of 0) + (c_this_of 1)) + (c_this_of 2))]) rfl ?_
        refine lv_iadd hx hb dX10_longNow_69 ?_
        refine lv_goto (tgt := 79) hx hb dX10_longNow_70 (by decide) ?_
        exact hret ((((c_this_of 0) + (c_this_of 1)) + (c_this_of 2)) + (c_this_of 3)) _ _ _ _ h dX10_longNow_79 hP hD hS
    · have h := rk_nnif hc2 h
      refine lv_iconst (v := 2) hx hb dX10_longNow_24 (by decide) ?_
      refine lv_aload_n hx hb dX10_longNow_25 rfl (lv_at hl 0 rfl) ?_
      refine va_get (D := D) (ci := 9) (v := .ref a_this_of) (C := RX10) (T := TX10) (N := 17) hx hb htc inX10 hown hV.1 hR 0 rfl rfl 6 (by decide) (htc _ w_4_4) (fun _ h9 => h9) rfl dX10_longNow_26 ?_
      refine lv_iconst (v := 0) hx hb dX10_longNow_29 (by decide) ?_
      refine va_iald hx hb hV.1 hR 1 0 rfl rfl (show vp_in (0 : Int32) 4 from (by decide : ¬ ((0 : Int32) < 0 ∨ 4 ≤ (0 : Int32).toNatClampNeg))) dX10_longNow_30 ?_
      refine W.eq (g2 := F0 m 31 ls [.int (c_this_of 0), .int (2 : Int32)]) rfl ?_
      refine lv_imul hx hb dX10_longNow_31 ?_
      refine lv_goto (tgt := 79) hx hb dX10_longNow_32 (by decide) ?_
      exact hret ((2 : Int32) * (c_this_of 0)) _ _ _ _ h dX10_longNow_79 hP hD hS
  · have h := rk_nnif hc1 h
    refine lv_aload_n hx hb dX10_longNow_7 rfl (lv_at hl 0 rfl) ?_
    refine va_get (D := D) (ci := 9) (v := .ref a_this_of) (C := RX10) (T := TX10) (N := 17) hx hb htc inX10 hown hV.1 hR 0 rfl rfl 6 (by decide) (htc _ w_4_4) (fun _ h9 => h9) rfl dX10_longNow_8 ?_
    refine lv_iconst (v := 1) hx hb dX10_longNow_11 (by decide) ?_
    refine va_iald hx hb hV.1 hR 1 0 rfl rfl (show vp_in (1 : Int32) 4 from (by decide : ¬ ((1 : Int32) < 0 ∨ 4 ≤ (1 : Int32).toNatClampNeg))) dX10_longNow_12 ?_
    refine W.eq (g2 := F0 m 13 ls [.int (c_this_of 1)]) rfl ?_
    refine lv_goto (tgt := 79) hx hb dX10_longNow_13 (by decide) ?_
    exact hret (c_this_of 1) _ _ _ _ h dX10_longNow_79 hP hD hS
