set_option maxHeartbeats 4000000 in
set_option maxRecDepth 100000 in
theorem mtX9_selectWords (l : Launch) (D : va_G) (cI cJ cO : ClassId) (PL : va_W) (sz : Nat) (a_this : Nat) (a_this_buffer : Nat) (a_this_draft : Nat) (a_this_desk : Nat) (a_this_archive : Nat) (a_this_present : Nat) (c_this_buffer : Nat → Int32) (c_this_draft : Nat → Int32) (a_this_desk_binomials : Nat) (a_this_desk_partitionCounts : Nat) (a_this_desk_treeCounts : Nat) (a_this_desk_sizes : Nat) (a_this_desk_starts : Nat) (a_this_desk_ranks : Nat) (a_this_desk_letters : Nat) (c_this_desk_letters : Nat → Int32) (c_this_desk_ranks : Nat → Int64) (c_this_desk_sizes : Nat → Int32) (c_this_desk_binomials : Nat → Int64) (c_this_desk_partitionCounts : Nat → Int32) (c_this_desk_treeCounts : Nat → Int64) (v_p1 : Int32) (v_p2 : Int32) (r0 : Int32 × Option Fm × (Nat → Int32) × (Nat → Int32) × (Nat → Int64) × (Nat → Int32) × (Nat → Int32)) (h : fX9_selectWords c_this_buffer c_this_draft c_this_desk_letters c_this_desk_ranks c_this_desk_sizes c_this_desk_binomials c_this_desk_partitionCounts c_this_desk_treeCounts v_p1 v_p2 = some r0) : Met l yX9_selectWords (rk_w yX9_selectWords cX9_selectWords 3 (some .int)) rmX9_selectWords (va_Pc [.ref a_this, .int v_p1, .int v_p2] (rk_B D (rk_TY cI cJ cO) [(a_this, .inr (8, [.ref a_this_buffer, .ref a_this_draft, .ref a_this_desk, .ref a_this_archive, .ref a_this_present])), (a_this_buffer, .inl (cI, 60, .inl c_this_buffer)), (a_this_desk_letters, .inl (cI, 4, .inl c_this_desk_letters)), (a_this_desk_ranks, .inl (cJ, 60, .inr (.inl c_this_desk_ranks))), (a_this_desk_sizes, .inl (cI, 60, .inl c_this_desk_sizes)), (a_this_draft, .inl (cI, 60, .inl c_this_draft))] [(a_this_desk, .inr (2, [.ref a_this_desk_binomials, .ref a_this_desk_partitionCounts, .ref a_this_desk_treeCounts, .ref a_this_desk_sizes, .ref a_this_desk_starts, .ref a_this_desk_ranks, .ref a_this_desk_letters])), (a_this_desk_binomials, .inl (cJ, 1891, .inr (.inl c_this_desk_binomials))), (a_this_desk_partitionCounts, .inl (cI, 1891, .inl c_this_desk_partitionCounts)), (a_this_desk_treeCounts, .inl (cJ, 31, .inr (.inl c_this_desk_treeCounts)))] PL sz)) (rk_Qie r0.1 D (fun q => ([(a_this, .inr (8, [.ref a_this_buffer, .ref a_this_draft, .ref a_this_desk, .ref a_this_archive, .ref (rk_pn r0.2.1 a_this_present (q 0))])), (a_this_buffer, .inl (cI, 60, .inl r0.2.2.1)), (a_this_desk_letters, .inl (cI, 4, .inl r0.2.2.2.1)), (a_this_desk_ranks, .inl (cJ, 60, .inr (.inl r0.2.2.2.2.1))), (a_this_desk_sizes, .inl (cI, 60, .inl r0.2.2.2.2.2.1)), (a_this_draft, .inl (cI, 60, .inl r0.2.2.2.2.2.2))] ++ rk_nc r0.2.1 (q 0))) [(a_this, .inr (8, [.ref a_this_buffer, .ref a_this_draft, .ref a_this_desk, .ref a_this_archive, .ref a_this_present])), (a_this_buffer, .inl (cI, 60, .inl c_this_buffer)), (a_this_desk_letters, .inl (cI, 4, .inl c_this_desk_letters)), (a_this_desk_ranks, .inl (cJ, 60, .inr (.inl c_this_desk_ranks))), (a_this_desk_sizes, .inl (cI, 60, .inl c_this_desk_sizes)), (a_this_draft, .inl (cI, 60, .inl c_this_draft))] sz) 1 5 (va_A [(a_this, .inr (8, [.ref a_this_buffer, .ref a_this_draft, .ref a_this_desk, .ref a_this_archive, .ref a_this_present])), (a_this_buffer, .inl (cI, 60, .inl c_this_buffer)), (a_this_desk_letters, .inl (cI, 4, .inl c_this_desk_letters)), (a_this_desk_ranks, .inl (cJ, 60, .inr (.inl c_this_desk_ranks))), (a_this_desk_sizes, .inl (cI, 60, .inl c_this_desk_sizes)), (a_this_draft, .inl (cI, 60, .inl c_this_draft))] sz) := by
  refine rk_metie (y := yX9_selectWords) (cc := cX9_selectWords) (maxL := 3) (av := [.ref a_this, .int v_p1, .int v_p2]) (sz := sz) h (fun x : Int32 × Option Fm × (Nat → Int32) × (Nat → Int32) × (Nat → Int64) × (Nat → Int32) × (Nat → Int32) => x.1) (fun x q => ([(a_this, .inr (8, [.ref a_this_buffer, .ref a_this_draft, .ref a_this_desk, .ref a_this_archive, .ref (rk_pn x.2.1 a_this_present (q 0))])), (a_this_buffer, .inl (cI, 60, .inl x.2.2.1)), (a_this_desk_letters, .inl (cI, 4, .inl x.2.2.2.1)), (a_this_desk_ranks, .inl (cJ, 60, .inr (.inl x.2.2.2.2.1))), (a_this_desk_sizes, .inl (cI, 60, .inl x.2.2.2.2.2.1)), (a_this_draft, .inl (cI, 60, .inl x.2.2.2.2.2.2))] ++ rk_nc x.2.1 (q 0))) (by decide) (Nat.le_of_ble_eq_true rfl) ?_
  intro p e s m args below meth c A ls Q hret hname hF hP hD hA hV hR0 hn hPL hnl hl h hS
  have hx := hF.1
  have hb := hF.2.1
  have hml := hF.2.2.1
  have hown : s.vm.findClass RX9 = some m.cls := hF.2.2.2.1
  have htc := hF.2.2.2.2
  have hP : va_P D vwCl [(a_this, .inr (8, [.ref a_this_buffer, .ref a_this_draft, .ref a_this_desk, .ref a_this_archive, .ref a_this_present])), (a_this_buffer, .inl (cI, 60, .inl c_this_buffer)), (a_this_desk_letters, .inl (cI, 4, .inl c_this_desk_letters)), (a_this_desk_ranks, .inl (cJ, 60, .inr (.inl c_this_desk_ranks))), (a_this_desk_sizes, .inl (cI, 60, .inl c_this_desk_sizes)), (a_this_draft, .inl (cI, 60, .inl c_this_draft))] s.heap := hP
  have hD : va_D A [(a_this, .inr (8, [.ref a_this_buffer, .ref a_this_draft, .ref a_this_desk, .ref a_this_archive, .ref a_this_present])), (a_this_buffer, .inl (cI, 60, .inl c_this_buffer)), (a_this_desk_letters, .inl (cI, 4, .inl c_this_desk_letters)), (a_this_desk_ranks, .inl (cJ, 60, .inr (.inl c_this_desk_ranks))), (a_this_desk_sizes, .inl (cI, 60, .inl c_this_desk_sizes)), (a_this_draft, .inl (cI, 60, .inl c_this_draft))] := hD
  have hR0 : va_P D vwCl [(a_this_desk, .inr (2, [.ref a_this_desk_binomials, .ref a_this_desk_partitionCounts, .ref a_this_desk_treeCounts, .ref a_this_desk_sizes, .ref a_this_desk_starts, .ref a_this_desk_ranks, .ref a_this_desk_letters])), (a_this_desk_binomials, .inl (cJ, 1891, .inr (.inl c_this_desk_binomials))), (a_this_desk_partitionCounts, .inl (cI, 1891, .inl c_this_desk_partitionCounts)), (a_this_desk_treeCounts, .inl (cJ, 31, .inr (.inl c_this_desk_treeCounts)))] s.heap := hR0
  have hR := hR0
  have hl : lv_has ls 3 [(0, .ref a_this), (1, .int v_p1), (2, .int v_p2)] := hl
  unfold fX9_selectWords at h
  refine lv_iload_n hx hb dX9_selectWords_0 rfl (lv_at hl 1 rfl) ?_
  refine lv_iconst (v := 1) hx hb dX9_selectWords_1 (by decide) ?_
  refine lv_icmp_lt (tgt := 21) hx hb dX9_selectWords_2 (by decide) (fun hc1 => ?_) (fun hc1 => ?_)
  · have h := rk_if hc1 h
    refine lv_iconst (v := (-1)) hx hb dX9_selectWords_21 (by decide) ?_
    refine W.widen (k := 1) (n := 5) (Nat.le_of_ble_eq_true rfl) (Nat.le_of_ble_eq_true rfl) ?_
    exact hret ((-1 : Int32), (none : Option Fm), c_this_buffer, c_this_desk_letters, c_this_desk_ranks, c_this_desk_sizes, c_this_draft) (rk_qs []) _ _ _ _ h dX9_selectWords_22 hP hD hS
  · have h := rk_nif hc1 h
    refine lv_iload_n hx hb dX9_selectWords_5 rfl (lv_at hl 1 rfl) ?_
    refine lv_bipush (v := 20) hx hb dX9_selectWords_6 (by decide) ?_
    refine lv_icmp_gt (tgt := 21) hx hb dX9_selectWords_8 (by decide) (fun hc2 => ?_) (fun hc2 => ?_)
    · have h := rk_if hc2 h
      refine lv_iconst (v := (-1)) hx hb dX9_selectWords_21 (by decide) ?_
      refine W.widen (k := 1) (n := 5) (Nat.le_of_ble_eq_true rfl) (Nat.le_of_ble_eq_true rfl) ?_
      exact hret ((-1 : Int32), (none : Option Fm), c_this_buffer, c_this_desk_letters, c_this_desk_ranks, c_this_desk_sizes, c_this_draft) (rk_qs []) _ _ _ _ h dX9_selectWords_22 hP hD hS
    · have h := rk_nif hc2 h
      refine lv_iload_n hx hb dX9_selectWords_11 rfl (lv_at hl 2 rfl) ?_
      refine lv_iconst (v := 1) hx hb dX9_selectWords_12 (by decide) ?_
      refine lv_icmp_lt (tgt := 21) hx hb dX9_selectWords_13 (by decide) (fun hc3 => ?_) (fun hc3 => ?_)
      · have h := rk_if hc3 h
        refine lv_iconst (v := (-1)) hx hb dX9_selectWords_21 (by decide) ?_
        refine W.widen (k := 1) (n := 5) (Nat.le_of_ble_eq_true rfl) (Nat.le_of_ble_eq_true rfl) ?_
        exact hret ((-1 : Int32), (none : Option Fm), c_this_buffer, c_this_desk_letters, c_this_desk_ranks, c_this_desk_sizes, c_this_draft) (rk_qs []) _ _ _ _ h dX9_selectWords_22 hP hD hS
      · have h := rk_nif hc3 h
        refine lv_iload_n hx hb dX9_selectWords_16 rfl (lv_at hl 2 rfl) ?_
        refine lv_iconst (v := 2) hx hb dX9_selectWords_17 (by decide) ?_
        refine lv_icmp_le (tgt := 23) hx hb dX9_selectWords_18 (by decide) (fun hc4 => ?_) (fun hc4 => ?_)
        · have h := rk_if hc4 h
          refine lv_aload_n hx hb dX9_selectWords_23 rfl (lv_at hl 0 rfl) ?_
          refine lv_aload_n hx hb dX9_selectWords_24 rfl (lv_at hl 0 rfl) ?_
          refine lv_iload_n hx hb dX9_selectWords_25 rfl (lv_at hl 1 rfl) ?_
          refine lv_iload_n hx hb dX9_selectWords_26 rfl (lv_at hl 2 rfl) ?_
          obtain ⟨r_27, hc_27, h⟩ := rk_bd h
          refine rk_r (wr := [(a_this, .inr (8, [.ref a_this_buffer, .ref a_this_draft, .ref a_this_desk, .ref a_this_archive, .ref a_this_present])), (a_this_buffer, .inl (cI, 60, .inl c_this_buffer)), (a_this_desk_letters, .inl (cI, 4, .inl c_this_desk_letters)), (a_this_desk_ranks, .inl (cJ, 60, .inr (.inl c_this_desk_ranks))), (a_this_desk_sizes, .inl (cI, 60, .inl c_this_desk_sizes)), (a_this_draft, .inl (cI, 60, .inl c_this_draft))]) (va_runV (C := RX9) (As := [.int v_p1, .int v_p2]) (rest := [.ref a_this]) hF (mtX9_wordsOf l D cI cJ cO PL _ a_this a_this_buffer a_this_draft a_this_desk a_this_archive a_this_present a_this_desk_binomials a_this_desk_partitionCounts a_this_desk_treeCounts a_this_desk_sizes a_this_desk_starts a_this_desk_ranks a_this_desk_letters c_this_desk_binomials v_p1 v_p2 r_27 hc_27) (cwV 2 htc (rk_gV w_2_86 w_2_88 ws_13 w_1_1 w_2_89) rfl rfl rfl (by decide +kernel) ⟨(Nat.le_of_ble_eq_true rfl), (Nat.le_of_ble_eq_true rfl)⟩) (rk_preV (va_recv hV.1 hP (ci := 8) (q0 := 0) rfl rfl) (rk_preS hP hD hS hR hn hPL hnl hV [] [(true, 0), (false, 0), (false, 1)] rfl (by decide) rfl (by decide))) rfl rfl hl.1 rfl (lv_room (Nat.le_of_ble_eq_true rfl)) dX9_selectWords_27 ⟨(Nat.le_of_ble_eq_true rfl), (Nat.le_of_ble_eq_true rfl)⟩) hP hD hS hA hR0 hn [] [0, 1, 2, 3, 4, 5] rfl rfl (by decide) (by decide) (fun q_27 H locs hP hD hS hR => ?_)
          have hP : va_P D vwCl [(a_this, .inr (8, [.ref a_this_buffer, .ref a_this_draft, .ref a_this_desk, .ref a_this_archive, .ref a_this_present])), (a_this_buffer, .inl (cI, 60, .inl c_this_buffer)), (a_this_desk_letters, .inl (cI, 4, .inl c_this_desk_letters)), (a_this_desk_ranks, .inl (cJ, 60, .inr (.inl c_this_desk_ranks))), (a_this_desk_sizes, .inl (cI, 60, .inl c_this_desk_sizes)), (a_this_draft, .inl (cI, 60, .inl c_this_draft)), (q_27, rk_fam r_27)] H := hP
          have hD : va_D A [(a_this, .inr (8, [.ref a_this_buffer, .ref a_this_draft, .ref a_this_desk, .ref a_this_archive, .ref a_this_present])), (a_this_buffer, .inl (cI, 60, .inl c_this_buffer)), (a_this_desk_letters, .inl (cI, 4, .inl c_this_desk_letters)), (a_this_desk_ranks, .inl (cJ, 60, .inr (.inl c_this_desk_ranks))), (a_this_desk_sizes, .inl (cI, 60, .inl c_this_desk_sizes)), (a_this_draft, .inl (cI, 60, .inl c_this_draft)), (q_27, rk_fam r_27)] := hD
          obtain ⟨r_30, hc_30, h⟩ := rk_bd h
          refine rk_i (wr := [(q_27, rk_fam r_27)]) (va_runV (C := RX9) (As := [.ref q_27]) (rest := []) hF (mtX9_choose l D cI cJ cO PL _ a_this a_this_buffer a_this_draft a_this_desk a_this_archive a_this_present q_27 r_27 c_this_buffer c_this_draft a_this_desk_binomials a_this_desk_partitionCounts a_this_desk_treeCounts a_this_desk_sizes a_this_desk_starts a_this_desk_ranks a_this_desk_letters c_this_desk_letters c_this_desk_ranks c_this_desk_sizes c_this_desk_binomials c_this_desk_partitionCounts c_this_desk_treeCounts r_30 hc_30) (cwV 1 htc (rk_gV w_1_176 w_1_178 ws_1 w_1_1 w_1_179) rfl rfl rfl (by decide +kernel) ⟨(Nat.le_of_ble_eq_true rfl), (Nat.le_of_ble_eq_true rfl)⟩) (rk_preV (va_recv hV.1 hP (ci := 8) (q0 := 0) rfl rfl) (rk_preS hP hD hS hR hn hPL hnl hV [0, 1, 2, 3, 4, 5] [(false, 0), (false, 1), (false, 2), (false, 3), (true, 6)] rfl (by decide) rfl (by decide))) rfl rfl hl.1 rfl (lv_room (Nat.le_of_ble_eq_true rfl)) dX9_selectWords_30 ⟨(Nat.le_of_ble_eq_true rfl), (Nat.le_of_ble_eq_true rfl)⟩) hP hD hS hA hR0 hn [0, 1, 2, 3, 4, 5] [6] rfl rfl (by decide) (by decide) (fun H locs hP hD hS hR => ?_)
          have hP : va_P D vwCl [(q_27, rk_fam r_27), (a_this, .inr (8, [.ref a_this_buffer, .ref a_this_draft, .ref a_this_desk, .ref a_this_archive, .ref q_27])), (a_this_buffer, .inl (cI, 60, .inl r_30.2.1)), (a_this_desk_letters, .inl (cI, 4, .inl r_30.2.2.1)), (a_this_desk_ranks, .inl (cJ, 60, .inr (.inl r_30.2.2.2.1))), (a_this_desk_sizes, .inl (cI, 60, .inl r_30.2.2.2.2.1)), (a_this_draft, .inl (cI, 60, .inl r_30.2.2.2.2.2))] H := hP
          have hD : va_D A [(q_27, rk_fam r_27), (a_this, .inr (8, [.ref a_this_buffer, .ref a_this_draft, .ref a_this_desk, .ref a_this_archive, .ref q_27])), (a_this_buffer, .inl (cI, 60, .inl r_30.2.1)), (a_this_desk_letters, .inl (cI, 4, .inl r_30.2.2.1)), (a_this_desk_ranks, .inl (cJ, 60, .inr (.inl r_30.2.2.2.1))), (a_this_desk_sizes, .inl (cI, 60, .inl r_30.2.2.2.2.1)), (a_this_draft, .inl (cI, 60, .inl r_30.2.2.2.2.2))] := hD
          refine W.widen (k := 1) (n := 5) (Nat.le_of_ble_eq_true rfl) (Nat.le_of_ble_eq_true rfl) ?_
          exact hret (r_30.1, (some r_27), r_30.2.1, r_30.2.2.1, r_30.2.2.2.1, r_30.2.2.2.2.1, r_30.2.2.2.2.2) (rk_qs [q_27]) _ _ _ _ h dX9_selectWords_33 (hP.sub [1, 2, 3, 4, 5, 6, 0] rfl) (hD.sub [1, 2, 3, 4, 5, 6, 0] (by decide) rfl) hS
        · have h := rk_nif hc4 h
          refine lv_iconst (v := (-1)) hx hb dX9_selectWords_21 (by decide) ?_
          refine W.widen (k := 1) (n := 5) (Nat.le_of_ble_eq_true rfl) (Nat.le_of_ble_eq_true rfl) ?_
          exact hret ((-1 : Int32), (none : Option Fm), c_this_buffer, c_this_desk_letters, c_this_desk_ranks, c_this_desk_sizes, c_this_draft) (rk_qs []) _ _ _ _ h dX9_selectWords_22 hP hD hS
set_option maxHeartbeats 4000000 in
set_option maxRecDepth 100000 in
theorem mtX9_treesOf (l : Launch) (D : va_G) (cI cJ cO : ClassId) (PL : va_W) (sz : Nat) (a_this : Nat) (a_this_buffer : Nat) (a_this_draft : Nat) (a_this_desk : Nat) (a_this_archive : Nat) (a_this_present : Nat) (a_this_desk_binomials : Nat) (a_this_desk_partitionCounts : Nat) (a_this_desk_treeCounts : Nat) (a_this_desk_sizes : Nat) (a_this_desk_starts : Nat) (a_this_desk_ranks : Nat) (a_this_desk_letters : Nat) (c_this_desk_treeCounts : Nat → Int64) (v_p1 : Int32) (r0 : Fm) (h : fX9_treesOf c_this_desk_treeCounts v_p1 = some r0) : Met l yX9_treesOf (rk_w yX9_treesOf cX9_treesOf 2 (some (.object "EnumerativeCoder$Family"))) rmX9_treesOf (va_Pc [.ref a_this, .int v_p1] (rk_B D (rk_TY cI cJ cO) [] [(a_this, .inr (8, [.ref a_this_buffer, .ref a_this_draft, .ref a_this_desk, .ref a_this_archive, .ref a_this_present])), (a_this_desk, .inr (2, [.ref a_this_desk_binomials, .ref a_this_desk_partitionCounts, .ref a_this_desk_treeCounts, .ref a_this_desk_sizes, .ref a_this_desk_starts, .ref a_this_desk_ranks, .ref a_this_desk_letters])), (a_this_desk_treeCounts, .inl (cJ, 31, .inr (.inl c_this_desk_treeCounts)))] PL sz)) (rk_Qr D (fun ra => [(ra, rk_fam r0)]) [] sz) 1 3 (va_A [] sz) := by
  refine rk_metr (Or.inl ⟨_, rfl⟩) h (fun x ra => [(ra, rk_fam x)]) (by decide) (Nat.le_of_ble_eq_true rfl) ?_
  intro p e s m args below meth c A ls Q hret hname hF hP hD hA hV hR0 hn hPL hnl hl h hS
  have hx := hF.1
  have hb := hF.2.1
  have hml := hF.2.2.1
  have hown : s.vm.findClass RX9 = some m.cls := hF.2.2.2.1
  have htc := hF.2.2.2.2
  have hP : va_P D vwCl [] s.heap := hP
  have hD : va_D A [] := hD
  have hR0 : va_P D vwCl [(a_this, .inr (8, [.ref a_this_buffer, .ref a_this_draft, .ref a_this_desk, .ref a_this_archive, .ref a_this_present])), (a_this_desk, .inr (2, [.ref a_this_desk_binomials, .ref a_this_desk_partitionCounts, .ref a_this_desk_treeCounts, .ref a_this_desk_sizes, .ref a_this_desk_starts, .ref a_this_desk_ranks, .ref a_this_desk_letters])), (a_this_desk_treeCounts, .inl (cJ, 31, .inr (.inl c_this_desk_treeCounts)))] s.heap := hR0
  have hR := hR0
  have hl : lv_has ls 2 [(0, .ref a_this), (1, .int v_p1)] := hl
  unfold fX9_treesOf at h
  refine va_new (ci := 6) (fs := [.int 0, .int 0, .long 0]) (C := RX7) (T := TX7) (N := 3) hx hb htc inX7 tyX7 tyX7_ok hown (htc _ w_2_114) (htc _ w_2_115) (htc _ w_1_10) hV.1 hP hD hS hA rfl (fun j hj => by rcases (show j = 0 ∨ j = 1 ∨ j = 2 by omega) with rfl | rfl | rfl <;> rfl) (Nat.le_of_ble_eq_true rfl) (Nat.le_of_ble_eq_true rfl) dX9_treesOf_0 (fun q_0 H hP hD hS => ?_)
  have hP : va_P D vwCl [(q_0, .inr (6, [.int 0, .int 0, .long 0]))] H := hP
  have hD : va_D A [(q_0, .inr (6, [.int 0, .int 0, .long 0]))] := hD
  have hR := rk_keep hR0 hn hS
  refine lv_dup hx hb dX9_treesOf_3 rfl ?_
  refine lv_iload_n hx hb dX9_treesOf_4 rfl (lv_at hl 1 rfl) ?_
  refine lv_aload_n hx hb dX9_treesOf_5 rfl (lv_at hl 0 rfl) ?_
  refine va_get (D := D) (ci := 8) (v := .ref a_this_desk) (C := RX9) (T := TX9) (N := 5) hx hb htc inX9 hown hV.1 hR 0 rfl rfl 2 (by decide) (htc _ w_1_154) (fun _ h9 => h9) rfl dX9_treesOf_6 ?_
  refine lv_iload_n hx hb dX9_treesOf_9 rfl (lv_at hl 1 rfl) ?_
  obtain ⟨r_10, hc_10, h⟩ := rk_bd h
  refine rk_l (wr := [(q_0, .inr (6, [.int 0, .int 0, .long 0]))]) (va_runVN (C := RX2) (As := [.int v_p1]) (rest := [.int v_p1, .ref q_0, .ref q_0]) hF (mtX2_trees l D cI cJ cO PL _ a_this_desk a_this_desk_binomials a_this_desk_partitionCounts a_this_desk_treeCounts a_this_desk_sizes a_this_desk_starts a_this_desk_ranks a_this_desk_letters c_this_desk_treeCounts v_p1 r_10 hc_10) ⟨va_cnB 1 htc (rk_gw w_2_23) rfl rfl rfl (hV.2.1 _ nw_2_116) (htc _ w_1_2) (by decide +kernel) ⟨(Nat.le_of_ble_eq_true rfl), (Nat.le_of_ble_eq_true rfl)⟩, htc _ w_2_22, htc _ ws_9⟩ (rk_preV (va_recv hV.1 hR (ci := 2) (q0 := 1) rfl rfl) (rk_preS hP hD hS hR hn hPL hnl hV [] [(false, 1), (false, 2)] rfl (by decide) rfl (by decide))) rfl rfl hl.1 rfl (lv_room (Nat.le_of_ble_eq_true rfl)) dX9_treesOf_10 ⟨(Nat.le_of_ble_eq_true rfl), (Nat.le_of_ble_eq_true rfl)⟩) hP hD hS hA hR0 hn [] [0] rfl rfl (by decide) (by decide) (fun H locs hP hD hS hR => ?_)
  have hP : va_P D vwCl [(q_0, .inr (6, [.int 0, .int 0, .long 0]))] H := hP
  have hD : va_D A [(q_0, .inr (6, [.int 0, .int 0, .long 0]))] := hD
  obtain ⟨r_13, hc_13, h⟩ := rk_bd h
  refine rk_v (wr := []) (va_runIN (As := [.int v_p1, .long r_10]) (rest := [.ref q_0]) hF (mtX7_init l D cI cJ cO PL _ q_0 v_p1 r_10 r_13 hc_13) ⟨va_cnB 2 htc (rk_gw w_2_119) rfl rfl rfl (hV.2.1 _ nw_2_117) (htc _ w_1_10) (by decide +kernel) ⟨(Nat.le_of_ble_eq_true rfl), (Nat.le_of_ble_eq_true rfl)⟩, rfl, htc _ w_2_118⟩ (rk_preS hP hD hS hR hn hPL hnl hV [0] [] rfl (by decide) rfl (by decide)) rfl rfl hl.1 rfl (lv_room (Nat.le_of_ble_eq_true rfl)) dX9_treesOf_13 ⟨(Nat.le_of_ble_eq_true rfl), (Nat.le_of_ble_eq_true rfl)⟩) hP hD hS hA hR0 hn [0] [] rfl rfl (by decide) (by decide) (fun H locs hP hD hS hR => ?_)
  have hP : va_P D vwCl [(q_0, .inr (6, [.int r_13.1, .int r_13.2.1, .long r_13.2.2]))] H := hP
  have hD : va_D A [(q_0, .inr (6, [.int r_13.1, .int r_13.2.1, .long r_13.2.2]))] := hD
  refine W.widen (k := 1) (n := 3) (Nat.le_of_ble_eq_true rfl) (Nat.le_of_ble_eq_true rfl) ?_
  exact hret ((3, r_13.1, r_13.2.1, r_13.2.2, 0, 0, 0, 0) : Fm) q_0 _ _ _ _ h dX9_treesOf_16 hP hD hS
set_option maxHeartbeats 4000000 in
set_option maxRecDepth 100000 in
theorem mtX9_selectTrees (l : Launch) (D : va_G) (cI cJ cO : ClassId) (PL : va_W) (sz : Nat) (a_this : Nat) (a_this_buffer : Nat) (a_this_draft : Nat) (a_this_desk : Nat) (a_this_archive : Nat) (a_this_present : Nat) (c_this_buffer : Nat → Int32) (c_this_draft : Nat → Int32) (a_this_desk_binomials : Nat) (a_this_desk_partitionCounts : Nat) (a_this_desk_treeCounts : Nat) (a_this_desk_sizes : Nat) (a_this_desk_starts : Nat) (a_this_desk_ranks : Nat) (a_this_desk_letters : Nat) (c_this_desk_letters : Nat → Int32) (c_this_desk_ranks : Nat → Int64) (c_this_desk_sizes : Nat → Int32) (c_this_desk_binomials : Nat → Int64) (c_this_desk_partitionCounts : Nat → Int32) (c_this_desk_treeCounts : Nat → Int64) (v_p1 : Int32) (r0 : Int32 × Option Fm × (Nat → Int32) × (Nat → Int32) × (Nat → Int64) × (Nat → Int32) × (Nat → Int32)) (h : fX9_selectTrees c_this_buffer c_this_draft c_this_desk_letters c_this_desk_ranks c_this_desk_sizes c_this_desk_binomials c_this_desk_partitionCounts c_this_desk_treeCounts v_p1 = some r0) : Met l yX9_selectTrees (rk_w yX9_selectTrees cX9_selectTrees 2 (some .int)) rmX9_selectTrees (va_Pc [.ref a_this, .int v_p1] (rk_B D (rk_TY cI cJ cO) [(a_this, .inr (8, [.ref a_this_buffer, .ref a_this_draft, .ref a_this_desk, .ref a_this_archive, .ref a_this_present])), (a_this_buffer, .inl (cI, 60, .inl c_this_buffer)), (a_this_desk_letters, .inl (cI, 4, .inl c_this_desk_letters)), (a_this_desk_ranks, .inl (cJ, 60, .inr (.inl c_this_desk_ranks))), (a_this_desk_sizes, .inl (cI, 60, .inl c_this_desk_sizes)), (a_this_draft, .inl (cI, 60, .inl c_this_draft))] [(a_this_desk, .inr (2, [.ref a_this_desk_binomials, .ref a_this_desk_partitionCounts, .ref a_this_desk_treeCounts, .ref a_this_desk_sizes, .ref a_this_desk_starts, .ref a_this_desk_ranks, .ref a_this_desk_letters])), (a_this_desk_binomials, .inl (cJ, 1891, .inr (.inl c_this_desk_binomials))), (a_this_desk_partitionCounts, .inl (cI, 1891, .inl c_this_desk_partitionCounts)), (a_this_desk_treeCounts, .inl (cJ, 31, .inr (.inl c_this_desk_treeCounts)))] PL sz)) (rk_Qie r0.1 D (fun q => ([(a_this, .inr (8, [.ref a_this_buffer, .ref a_this_draft, .ref a_this_desk, .ref a_this_archive, .ref (rk_pn r0.2.1 a_this_present (q 0))])), (a_this_buffer, .inl (cI, 60, .inl r0.2.2.1)), (a_this_desk_letters, .inl (cI, 4, .inl r0.2.2.2.1)), (a_this_desk_ranks, .inl (cJ, 60, .inr (.inl r0.2.2.2.2.1))), (a_this_desk_sizes, .inl (cI, 60, .inl r0.2.2.2.2.2.1)), (a_this_draft, .inl (cI, 60, .inl r0.2.2.2.2.2.2))] ++ rk_nc r0.2.1 (q 0))) [(a_this, .inr (8, [.ref a_this_buffer, .ref a_this_draft, .ref a_this_desk, .ref a_this_archive, .ref a_this_present])), (a_this_buffer, .inl (cI, 60, .inl c_this_buffer)), (a_this_desk_letters, .inl (cI, 4, .inl c_this_desk_letters)), (a_this_desk_ranks, .inl (cJ, 60, .inr (.inl c_this_desk_ranks))), (a_this_desk_sizes, .inl (cI, 60, .inl c_this_desk_sizes)), (a_this_draft, .inl (cI, 60, .inl c_this_draft))] sz) 1 3 (va_A [(a_this, .inr (8, [.ref a_this_buffer, .ref a_this_draft, .ref a_this_desk, .ref a_this_archive, .ref a_this_present])), (a_this_buffer, .inl (cI, 60, .inl c_this_buffer)), (a_this_desk_letters, .inl (cI, 4, .inl c_this_desk_letters)), (a_this_desk_ranks, .inl (cJ, 60, .inr (.inl c_this_desk_ranks))), (a_this_desk_sizes, .inl (cI, 60, .inl c_this_desk_sizes)), (a_this_draft, .inl (cI, 60, .inl c_this_draft))] sz) := by
  refine rk_metie (y := yX9_selectTrees) (cc := cX9_selectTrees) (maxL := 2) (av := [.ref a_this, .int v_p1]) (sz := sz) h (fun x : Int32 × Option Fm × (Nat → Int32) × (Nat → Int32) × (Nat → Int64) × (Nat → Int32) × (Nat → Int32) => x.1) (fun x q => ([(a_this, .inr (8, [.ref a_this_buffer, .ref a_this_draft, .ref a_this_desk, .ref a_this_archive, .ref (rk_pn x.2.1 a_this_present (q 0))])), (a_this_buffer, .inl (cI, 60, .inl x.2.2.1)), (a_this_desk_letters, .inl (cI, 4, .inl x.2.2.2.1)), (a_this_desk_ranks, .inl (cJ, 60, .inr (.inl x.2.2.2.2.1))), (a_this_desk_sizes, .inl (cI, 60, .inl x.2.2.2.2.2.1)), (a_this_draft, .inl (cI, 60, .inl x.2.2.2.2.2.2))] ++ rk_nc x.2.1 (q 0))) (by decide) (Nat.le_of_ble_eq_true rfl) ?_
  intro p e s m args below meth c A ls Q hret hname hF hP hD hA hV hR0 hn hPL hnl hl h hS
  have hx := hF.1
  have hb := hF.2.1
  have hml := hF.2.2.1
  have hown : s.vm.findClass RX9 = some m.cls := hF.2.2.2.1
  have htc := hF.2.2.2.2
  have hP : va_P D vwCl [(a_this, .inr (8, [.ref a_this_buffer, .ref a_this_draft, .ref a_this_desk, .ref a_this_archive, .ref a_this_present])), (a_this_buffer, .inl (cI, 60, .inl c_this_buffer)), (a_this_desk_letters, .inl (cI, 4, .inl c_this_desk_letters)), (a_this_desk_ranks, .inl (cJ, 60, .inr (.inl c_this_desk_ranks))), (a_this_desk_sizes, .inl (cI, 60, .inl c_this_desk_sizes)), (a_this_draft, .inl (cI, 60, .inl c_this_draft))] s.heap := hP
  have hD : va_D A [(a_this, .inr (8, [.ref a_this_buffer, .ref a_this_draft, .ref a_this_desk, .ref a_this_archive, .ref a_this_present])), (a_this_buffer, .inl (cI, 60, .inl c_this_buffer)), (a_this_desk_letters, .inl (cI, 4, .inl c_this_desk_letters)), (a_this_desk_ranks, .inl (cJ, 60, .inr (.inl c_this_desk_ranks))), (a_this_desk_sizes, .inl (cI, 60, .inl c_this_desk_sizes)), (a_this_draft, .inl (cI, 60, .inl c_this_draft))] := hD
  have hR0 : va_P D vwCl [(a_this_desk, .inr (2, [.ref a_this_desk_binomials, .ref a_this_desk_partitionCounts, .ref a_this_desk_treeCounts, .ref a_this_desk_sizes, .ref a_this_desk_starts, .ref a_this_desk_ranks, .ref a_this_desk_letters])), (a_this_desk_binomials, .inl (cJ, 1891, .inr (.inl c_this_desk_binomials))), (a_this_desk_partitionCounts, .inl (cI, 1891, .inl c_this_desk_partitionCounts)), (a_this_desk_treeCounts, .inl (cJ, 31, .inr (.inl c_this_desk_treeCounts)))] s.heap := hR0
  have hR := hR0
  have hl : lv_has ls 2 [(0, .ref a_this), (1, .int v_p1)] := hl
  unfold fX9_selectTrees at h
  refine lv_iload_n hx hb dX9_selectTrees_0 rfl (lv_at hl 1 rfl) ?_
  refine lv_iconst (v := 1) hx hb dX9_selectTrees_1 (by decide) ?_
  refine lv_icmp_lt (tgt := 11) hx hb dX9_selectTrees_2 (by decide) (fun hc1 => ?_) (fun hc1 => ?_)
  · have h := rk_if hc1 h
    refine lv_iconst (v := (-1)) hx hb dX9_selectTrees_11 (by decide) ?_
    refine W.widen (k := 1) (n := 3) (Nat.le_of_ble_eq_true rfl) (Nat.le_of_ble_eq_true rfl) ?_
    exact hret ((-1 : Int32), (none : Option Fm), c_this_buffer, c_this_desk_letters, c_this_desk_ranks, c_this_desk_sizes, c_this_draft) (rk_qs []) _ _ _ _ h dX9_selectTrees_12 hP hD hS
  · have h := rk_nif hc1 h
    refine lv_iload_n hx hb dX9_selectTrees_5 rfl (lv_at hl 1 rfl) ?_
    refine lv_bipush (v := 30) hx hb dX9_selectTrees_6 (by decide) ?_
    refine lv_icmp_le (tgt := 13) hx hb dX9_selectTrees_8 (by decide) (fun hc2 => ?_) (fun hc2 => ?_)
    · have h := rk_if hc2 h
      refine lv_aload_n hx hb dX9_selectTrees_13 rfl (lv_at hl 0 rfl) ?_
      refine lv_aload_n hx hb dX9_selectTrees_14 rfl (lv_at hl 0 rfl) ?_
      refine lv_iload_n hx hb dX9_selectTrees_15 rfl (lv_at hl 1 rfl) ?_
      obtain ⟨r_16, hc_16, h⟩ := rk_bd h
      refine rk_r (wr := [(a_this, .inr (8, [.ref a_this_buffer, .ref a_this_draft, .ref a_this_desk, .ref a_this_archive, .ref a_this_present])), (a_this_buffer, .inl (cI, 60, .inl c_this_buffer)), (a_this_desk_letters, .inl (cI, 4, .inl c_this_desk_letters)), (a_this_desk_ranks, .inl (cJ, 60, .inr (.inl c_this_desk_ranks))), (a_this_desk_sizes, .inl (cI, 60, .inl c_this_desk_sizes)), (a_this_draft, .inl (cI, 60, .inl c_this_draft))]) (va_runV (C := RX9) (As := [.int v_p1]) (rest := [.ref a_this]) hF (mtX9_treesOf l D cI cJ cO PL _ a_this a_this_buffer a_this_draft a_this_desk a_this_archive a_this_present a_this_desk_binomials a_this_desk_partitionCounts a_this_desk_treeCounts a_this_desk_sizes a_this_desk_starts a_this_desk_ranks a_this_desk_letters c_this_desk_treeCounts v_p1 r_16 hc_16) (cwV 1 htc (rk_gV w_2_110 w_2_112 ws_14 w_1_1 w_2_113) rfl rfl rfl (by decide +kernel) ⟨(Nat.le_of_ble_eq_true rfl), (Nat.le_of_ble_eq_true rfl)⟩) (rk_preV (va_recv hV.1 hP (ci := 8) (q0 := 0) rfl rfl) (rk_preS hP hD hS hR hn hPL hnl hV [] [(true, 0), (false, 0), (false, 3)] rfl (by decide) rfl (by decide))) rfl rfl hl.1 rfl (lv_room (Nat.le_of_ble_eq_true rfl)) dX9_selectTrees_16 ⟨(Nat.le_of_ble_eq_true rfl), (Nat.le_of_ble_eq_true rfl)⟩) hP hD hS hA hR0 hn [] [0, 1, 2, 3, 4, 5] rfl rfl (by decide) (by decide) (fun q_16 H locs hP hD hS hR => ?_)
      have hP : va_P D vwCl [(a_this, .inr (8, [.ref a_this_buffer, .ref a_this_draft, .ref a_this_desk, .ref a_this_archive, .ref a_this_present])), (a_this_buffer, .inl (cI, 60, .inl c_this_buffer)), (a_this_desk_letters, .inl (cI, 4, .inl c_this_desk_letters)), (a_this_desk_ranks, .inl (cJ, 60, .inr (.inl c_this_desk_ranks))), (a_this_desk_sizes, .inl (cI, 60, .inl c_this_desk_sizes)), (a_this_draft, .inl (cI, 60, .inl c_this_draft)), (q_16, rk_fam r_16)] H := hP
      have hD : va_D A [(a_this, .inr (8, [.ref a_this_buffer, .ref a_this_draft, .ref a_this_desk, .ref a_this_archive, .ref a_this_present])), (a_this_buffer, .inl (cI, 60, .inl c_this_buffer)), (a_this_desk_letters, .inl (cI, 4, .inl c_this_desk_letters)), (a_this_desk_ranks, .inl (cJ, 60, .inr (.inl c_this_desk_ranks))), (a_this_desk_sizes, .inl (cI, 60, .inl c_this_desk_sizes)), (a_this_draft, .inl (cI, 60, .inl c_this_draft)), (q_16, rk_fam r_16)] := hD
      obtain ⟨r_19, hc_19, h⟩ := rk_bd h
      refine rk_i (wr := [(q_16, rk_fam r_16)]) (va_runV (C := RX9) (As := [.ref q_16]) (rest := []) hF (mtX9_choose l D cI cJ cO PL _ a_this a_this_buffer a_this_draft a_this_desk a_this_archive a_this_present q_16 r_16 c_this_buffer c_this_draft a_this_desk_binomials a_this_desk_partitionCounts a_this_desk_treeCounts a_this_desk_sizes a_this_desk_starts a_this_desk_ranks a_this_desk_letters c_this_desk_letters c_this_desk_ranks c_this_desk_sizes c_this_desk_binomials c_this_desk_partitionCounts c_this_desk_treeCounts r_19 hc_19) (cwV 1 htc (rk_gV w_1_176 w_1_178 ws_1 w_1_1 w_1_179) rfl rfl rfl (by decide +kernel) ⟨(Nat.le_of_ble_eq_true rfl), (Nat.le_of_ble_eq_true rfl)⟩) (rk_preV (va_recv hV.1 hP (ci := 8) (q0 := 0) rfl rfl) (rk_preS hP hD hS hR hn hPL hnl hV [0, 1, 2, 3, 4, 5] [(false, 0), (false, 1), (false, 2), (false, 3), (true, 6)] rfl (by decide) rfl (by decide))) rfl rfl hl.1 rfl (lv_room (Nat.le_of_ble_eq_true rfl)) dX9_selectTrees_19 ⟨(Nat.le_of_ble_eq_true rfl), (Nat.le_of_ble_eq_true rfl)⟩) hP hD hS hA hR0 hn [0, 1, 2, 3, 4, 5] [6] rfl rfl (by decide) (by decide) (fun H locs hP hD hS hR => ?_)
      have hP : va_P D vwCl [(q_16, rk_fam r_16), (a_this, .inr (8, [.ref a_this_buffer, .ref a_this_draft, .ref a_this_desk, .ref a_this_archive, .ref q_16])), (a_this_buffer, .inl (cI, 60, .inl r_19.2.1)), (a_this_desk_letters, .inl (cI, 4, .inl r_19.2.2.1)), (a_this_desk_ranks, .inl (cJ, 60, .inr (.inl r_19.2.2.2.1))), (a_this_desk_sizes, .inl (cI, 60, .inl r_19.2.2.2.2.1)), (a_this_draft, .inl (cI, 60, .inl r_19.2.2.2.2.2))] H := hP
      have hD : va_D A [(q_16, rk_fam r_16), (a_this, .inr (8, [.ref a_this_buffer, .ref a_this_draft, .ref a_this_desk, .ref a_this_archive, .ref q_16])), (a_this_buffer, .inl (cI, 60, .inl r_19.2.1)), (a_this_desk_letters, .inl (cI, 4, .inl r_19.2.2.1)), (a_this_desk_ranks, .inl (cJ, 60, .inr (.inl r_19.2.2.2.1))), (a_this_desk_sizes, .inl (cI, 60, .inl r_19.2.2.2.2.1)), (a_this_draft, .inl (cI, 60, .inl r_19.2.2.2.2.2))] := hD
      refine W.widen (k := 1) (n := 3) (Nat.le_of_ble_eq_true rfl) (Nat.le_of_ble_eq_true rfl) ?_
      exact hret (r_19.1, (some r_16), r_19.2.1, r_19.2.2.1, r_19.2.2.2.1, r_19.2.2.2.2.1, r_19.2.2.2.2.2) (rk_qs [q_16]) _ _ _ _ h dX9_selectTrees_22 (hP.sub [1, 2, 3, 4, 5, 6, 0] rfl) (hD.sub [1, 2, 3, 4, 5, 6, 0] (by decide) rfl) hS
    · have h := rk_nif hc2 h
      refine lv_iconst (v := (-1)) hx hb dX9_selectTrees_11 (by decide) ?_
      refine W.widen (k := 1) (n := 3) (Nat.le_of_ble_eq_true rfl) (Nat.le_of_ble_eq_true rfl) ?_
      exact hret ((-1 : Int32), (none : Option Fm), c_this_buffer, c_this_desk_letters, c_this_desk_ranks, c_this_desk_sizes, c_this_draft) (rk_qs []) _ _ _ _ h dX9_selectTrees_12 hP hD hS
set_option maxHeartbeats 4000000 in
set_option maxRecDepth 100000 in
theorem mtX9_selectPartitions (l : Launch) (D : va_G) (cI cJ cO : ClassId) (PL : va_W) (sz : Nat) (a_this : Nat) (a_this_buffer : Nat) (a_this_draft : Nat) (a_this_desk : Nat) (a_this_archive : Nat) (a_this_present : Nat) (c_this_buffer : Nat → Int32) (c_this_draft : Nat → Int32) (a_this_desk_binomials : Nat) (a_this_desk_partitionCounts : Nat) (a_this_desk_treeCounts : Nat) (a_this_desk_sizes : Nat) (a_this_desk_starts : Nat) (a_this_desk_ranks : Nat) (a_this_desk_letters : Nat) (c_this_desk_letters : Nat → Int32) (c_this_desk_ranks : Nat → Int64) (c_this_desk_sizes : Nat → Int32) (c_this_desk_binomials : Nat → Int64) (c_this_desk_partitionCounts : Nat → Int32) (c_this_desk_treeCounts : Nat → Int64) (v_p1 : Int32) (v_p2 : Int32) (r0 : Int32 × Option Fm × (Nat → Int32) × (Nat → Int32) × (Nat → Int64) × (Nat → Int32) × (Nat → Int32)) (h : fX9_selectPartitions c_this_buffer c_this_draft c_this_desk_letters c_this_desk_ranks c_this_desk_sizes c_this_desk_binomials c_this_desk_partitionCounts c_this_desk_treeCounts v_p1 v_p2 = some r0) : Met l yX9_selectPartitions (rk_w yX9_selectPartitions cX9_selectPartitions 3 (some .int)) rmX9_selectPartitions (va_Pc [.ref a_this, .int v_p1, .int v_p2] (rk_B D (rk_TY cI cJ cO) [(a_this, .inr (8, [.ref a_this_buffer, .ref a_this_draft, .ref a_this_desk, .ref a_this_archive, .ref a_this_present])), (a_this_buffer, .inl (cI, 60, .inl c_this_buffer)), (a_this_desk_letters, .inl (cI, 4, .inl c_this_desk_letters)), (a_this_desk_ranks, .inl (cJ, 60, .inr (.inl c_this_desk_ranks))), (a_this_desk_sizes, .inl (cI, 60, .inl c_this_desk_sizes)), (a_this_draft, .inl (cI, 60, .inl c_this_draft))] [(a_this_desk, .inr (2, [.ref a_this_desk_binomials, .ref a_this_desk_partitionCounts, .ref a_this_desk_treeCounts, .ref a_this_desk_sizes, .ref a_this_desk_starts, .ref a_this_desk_ranks, .ref a_this_desk_letters])), (a_this_desk_binomials, .inl (cJ, 1891, .inr (.inl c_this_desk_binomials))), (a_this_desk_partitionCounts, .inl (cI, 1891, .inl c_this_desk_partitionCounts)), (a_this_desk_treeCounts, .inl (cJ, 31, .inr (.inl c_this_desk_treeCounts)))] PL sz)) (rk_Qie r0.1 D (fun q => ([(a_this, .inr (8, [.ref a_this_buffer, .ref a_this_draft, .ref a_this_desk, .ref a_this_archive, .ref (rk_pn r0.2.1 a_this_present (q 0))])), (a_this_buffer, .inl (cI, 60, .inl r0.2.2.1)), (a_this_desk_letters, .inl (cI, 4, .inl r0.2.2.2.1)), (a_this_desk_ranks, .inl (cJ, 60, .inr (.inl r0.2.2.2.2.1))), (a_this_desk_sizes, .inl (cI, 60, .inl r0.2.2.2.2.2.1)), (a_this_draft, .inl (cI, 60, .inl r0.2.2.2.2.2.2))] ++ rk_nc r0.2.1 (q 0))) [(a_this, .inr (8, [.ref a_this_buffer, .ref a_this_draft, .ref a_this_desk, .ref a_this_archive, .ref a_this_present])), (a_this_buffer, .inl (cI, 60, .inl c_this_buffer)), (a_this_desk_letters, .inl (cI, 4, .inl c_this_desk_letters)), (a_this_desk_ranks, .inl (cJ, 60, .inr (.inl c_this_desk_ranks))), (a_this_desk_sizes, .inl (cI, 60, .inl c_this_desk_sizes)), (a_this_draft, .inl (cI, 60, .inl c_this_draft))] sz) 1 4 (va_A [(a_this, .inr (8, [.ref a_this_buffer, .ref a_this_draft, .ref a_this_desk, .ref a_this_archive, .ref a_this_present])), (a_this_buffer, .inl (cI, 60, .inl c_this_buffer)), (a_this_desk_letters, .inl (cI, 4, .inl c_this_desk_letters)), (a_this_desk_ranks, .inl (cJ, 60, .inr (.inl c_this_desk_ranks))), (a_this_desk_sizes, .inl (cI, 60, .inl c_this_desk_sizes)), (a_this_draft, .inl (cI, 60, .inl c_this_draft))] sz) := by
  refine rk_metie (y := yX9_selectPartitions) (cc := cX9_selectPartitions) (maxL := 3) (av := [.ref a_this, .int v_p1, .int v_p2]) (sz := sz) h (fun x : Int32 × Option Fm × (Nat → Int32) × (Nat → Int32) × (Nat → Int64) × (Nat → Int32) × (Nat → Int32) => x.1) (fun x q => ([(a_this, .inr (8, [.ref a_this_buffer, .ref a_this_draft, .ref a_this_desk, .ref a_this_archive, .ref (rk_pn x.2.1 a_this_present (q 0))])), (a_this_buffer, .inl (cI, 60, .inl x.2.2.1)), (a_this_desk_letters, .inl (cI, 4, .inl x.2.2.2.1)), (a_this_desk_ranks, .inl (cJ, 60, .inr (.inl x.2.2.2.2.1))), (a_this_desk_sizes, .inl (cI, 60, .inl x.2.2.2.2.2.1)), (a_this_draft, .inl (cI, 60, .inl x.2.2.2.2.2.2))] ++ rk_nc x.2.1 (q 0))) (by decide) (Nat.le_of_ble_eq_true rfl) ?_
  intro p e s m args below meth c A ls Q hret hname hF hP hD hA hV hR0 hn hPL hnl hl h hS
  have hx := hF.1
  have hb := hF.2.1
  have hml := hF.2.2.1
  have hown : s.vm.findClass RX9 = some m.cls := hF.2.2.2.1
  have htc := hF.2.2.2.2
  have hP : va_P D vwCl [(a_this, .inr (8, [.ref a_this_buffer, .ref a_this_draft, .ref a_this_desk, .ref a_this_archive, .ref a_this_present])), (a_this_buffer, .inl (cI, 60, .inl c_this_buffer)), (a_this_desk_letters, .inl (cI, 4, .inl c_this_desk_letters)), (a_this_desk_ranks, .inl (cJ, 60, .inr (.inl c_this_desk_ranks))), (a_this_desk_sizes, .inl (cI, 60, .inl c_this_desk_sizes)), (a_this_draft, .inl (cI, 60, .inl c_this_draft))] s.heap := hP
  have hD : va_D A [(a_this, .inr (8, [.ref a_this_buffer, .ref a_this_draft, .ref a_this_desk, .ref a_this_archive, .ref a_this_present])), (a_this_buffer, .inl (cI, 60, .inl c_this_buffer)), (a_this_desk_letters, .inl (cI, 4, .inl c_this_desk_letters)), (a_this_desk_ranks, .inl (cJ, 60, .inr (.inl c_this_desk_ranks))), (a_this_desk_sizes, .inl (cI, 60, .inl c_this_desk_sizes)), (a_this_draft, .inl (cI, 60, .inl c_this_draft))] := hD
  have hR0 : va_P D vwCl [(a_this_desk, .inr (2, [.ref a_this_desk_binomials, .ref a_this_desk_partitionCounts, .ref a_this_desk_treeCounts, .ref a_this_desk_sizes, .ref a_this_desk_starts, .ref a_this_desk_ranks, .ref a_this_desk_letters])), (a_this_desk_binomials, .inl (cJ, 1891, .inr (.inl c_this_desk_binomials))), (a_this_desk_partitionCounts, .inl (cI, 1891, .inl c_this_desk_partitionCounts)), (a_this_desk_treeCounts, .inl (cJ, 31, .inr (.inl c_this_desk_treeCounts)))] s.heap := hR0
  have hR := hR0
  have hl : lv_has ls 3 [(0, .ref a_this), (1, .int v_p1), (2, .int v_p2)] := hl
  unfold fX9_selectPartitions at h
  refine lv_iload_n hx hb dX9_selectPartitions_0 rfl (lv_at hl 1 rfl) ?_
  refine lv_iconst (v := 1) hx hb dX9_selectPartitions_1 (by decide) ?_
  refine lv_icmp_lt (tgt := 21) hx hb dX9_selectPartitions_2 (by decide) (fun hc1 => ?_) (fun hc1 => ?_)
  · have h := rk_if hc1 h
    refine lv_iconst (v := (-1)) hx hb dX9_selectPartitions_21 (by decide) ?_
    refine W.widen (k := 1) (n := 4) (Nat.le_of_ble_eq_true rfl) (Nat.le_of_ble_eq_true rfl) ?_
    exact hret ((-1 : Int32), (none : Option Fm), c_this_buffer, c_this_desk_letters, c_this_desk_ranks, c_this_desk_sizes, c_this_draft) (rk_qs []) _ _ _ _ h dX9_selectPartitions_22 hP hD hS
  · have h := rk_nif hc1 h
    refine lv_iload_n hx hb dX9_selectPartitions_5 rfl (lv_at hl 1 rfl) ?_
    refine lv_bipush (v := 60) hx hb dX9_selectPartitions_6 (by decide) ?_
    refine lv_icmp_gt (tgt := 21) hx hb dX9_selectPartitions_8 (by decide) (fun hc2 => ?_) (fun hc2 => ?_)
    · have h := rk_if hc2 h
      refine lv_iconst (v := (-1)) hx hb dX9_selectPartitions_21 (by decide) ?_
      refine W.widen (k := 1) (n := 4) (Nat.le_of_ble_eq_true rfl) (Nat.le_of_ble_eq_true rfl) ?_
      exact hret ((-1 : Int32), (none : Option Fm), c_this_buffer, c_this_desk_letters, c_this_desk_ranks, c_this_desk_sizes, c_this_draft) (rk_qs []) _ _ _ _ h dX9_selectPartitions_22 hP hD hS
    · have h := rk_nif hc2 h
      refine lv_iload_n hx hb dX9_selectPartitions_11 rfl (lv_at hl 2 rfl) ?_
      refine lv_iconst (v := 1) hx hb dX9_selectPartitions_12 (by decide) ?_
      refine lv_icmp_lt (tgt := 21) hx hb dX9_selectPartitions_13 (by decide) (fun hc3 => ?_) (fun hc3 => ?_)
      · have h := rk_if hc3 h
        refine lv_iconst (v := (-1)) hx hb dX9_selectPartitions_21 (by decide) ?_
        refine W.widen (k := 1) (n := 4) (Nat.le_of_ble_eq_true rfl) (Nat.le_of_ble_eq_true rfl) ?_
        exact hret ((-1 : Int32), (none : Option Fm), c_this_buffer, c_this_desk_letters, c_this_desk_ranks, c_this_desk_sizes, c_this_draft) (rk_qs []) _ _ _ _ h dX9_selectPartitions_22 hP hD hS
      · have h := rk_nif hc3 h
        refine lv_iload_n hx hb dX9_selectPartitions_16 rfl (lv_at hl 2 rfl) ?_
        refine lv_iload_n hx hb dX9_selectPartitions_17 rfl (lv_at hl 1 rfl) ?_
        refine lv_icmp_le (tgt := 23) hx hb dX9_selectPartitions_18 (by decide) (fun hc4 => ?_) (fun hc4 => ?_)
        · have h := rk_if hc4 h
          refine lv_aload_n hx hb dX9_selectPartitions_23 rfl (lv_at hl 0 rfl) ?_
          refine va_new (ci := 3) (fs := [.int 0, .int 0, .long 0, .int 0]) (C := RX4) (T := TX4) (N := 4) hx hb htc inX4 tyX4 tyX4_ok hown (htc _ w_2_129) (htc _ w_2_130) (htc _ w_1_12) hV.1 hP hD hS hA rfl (fun j hj => by rcases (show j = 0 ∨ j = 1 ∨ j = 2 ∨ j = 3 by omega) with rfl | rfl | rfl | rfl <;> rfl) (Nat.le_of_ble_eq_true rfl) (Nat.le_of_ble_eq_true rfl) dX9_selectPartitions_24 (fun q_24 H hP hD hS => ?_)
          have hP : va_P D vwCl [(a_this, .inr (8, [.ref a_this_buffer, .ref a_this_draft, .ref a_this_desk, .ref a_this_archive, .ref a_this_present])), (a_this_buffer, .inl (cI, 60, .inl c_this_buffer)), (a_this_desk_letters, .inl (cI, 4, .inl c_this_desk_letters)), (a_this_desk_ranks, .inl (cJ, 60, .inr (.inl c_this_desk_ranks))), (a_this_desk_sizes, .inl (cI, 60, .inl c_this_desk_sizes)), (a_this_draft, .inl (cI, 60, .inl c_this_draft)), (q_24, .inr (3, [.int 0, .int 0, .long 0, .int 0]))] H := hP
          have hD : va_D A [(a_this, .inr (8, [.ref a_this_buffer, .ref a_this_draft, .ref a_this_desk, .ref a_this_archive, .ref a_this_present])), (a_this_buffer, .inl (cI, 60, .inl c_this_buffer)), (a_this_desk_letters, .inl (cI, 4, .inl c_this_desk_letters)), (a_this_desk_ranks, .inl (cJ, 60, .inr (.inl c_this_desk_ranks))), (a_this_desk_sizes, .inl (cI, 60, .inl c_this_desk_sizes)), (a_this_draft, .inl (cI, 60, .inl c_this_draft)), (q_24, .inr (3, [.int 0, .int 0, .long 0, .int 0]))] := hD
          have hR := rk_keep hR0 hn hS
          refine lv_dup hx hb dX9_selectPartitions_27 rfl ?_
          refine lv_iload_n hx hb dX9_selectPartitions_28 rfl (lv_at hl 1 rfl) ?_
          refine lv_iload_n hx hb dX9_selectPartitions_29 rfl (lv_at hl 2 rfl) ?_
          refine lv_aload_n hx hb dX9_selectPartitions_30 rfl (lv_at hl 0 rfl) ?_
          refine va_get (D := D) (ci := 8) (v := .ref a_this_desk) (C := RX9) (T := TX9) (N := 5) hx hb htc inX9 hown hV.1 hP 0 rfl rfl 2 (by decide) (htc _ w_1_154) (fun _ h9 => h9) rfl dX9_selectPartitions_31 ?_
          refine lv_iload_n hx hb dX9_selectPartitions_34 rfl (lv_at hl 1 rfl) ?_
          refine lv_iload_n hx hb dX9_selectPartitions_35 rfl (lv_at hl 2 rfl) ?_
          obtain ⟨r_36, hc_36, h⟩ := rk_bd h
          refine rk_i (wr := [(a_this, .inr (8, [.ref a_this_buffer, .ref a_this_draft, .ref a_this_desk, .ref a_this_archive, .ref a_this_present])), (a_this_buffer, .inl (cI, 60, .inl c_this_buffer)), (a_this_desk_letters, .inl (cI, 4, .inl c_this_desk_letters)), (a_this_desk_ranks, .inl (cJ, 60, .inr (.inl c_this_desk_ranks))), (a_this_desk_sizes, .inl (cI, 60, .inl c_this_desk_sizes)), (a_this_draft, .inl (cI, 60, .inl c_this_draft)), (q_24, .inr (3, [.int 0, .int 0, .long 0, .int 0]))]) (va_runVN (C := RX2) (As := [.int v_p1, .int v_p2]) (rest := [.int v_p2, .int v_p1, .ref q_24, .ref q_24, .ref a_this]) hF (mtX2_partitions l D cI cJ cO PL _ a_this_desk a_this_desk_binomials a_this_desk_partitionCounts a_this_desk_treeCounts a_this_desk_sizes a_this_desk_starts a_this_desk_ranks a_this_desk_letters c_this_desk_partitionCounts v_p1 v_p2 r_36 hc_36) ⟨va_cnB 2 htc (rk_gw w_1_215) rfl rfl rfl (hV.2.1 _ nw_2_131) (htc _ w_1_2) (by decide +kernel) ⟨(Nat.le_of_ble_eq_true rfl), (Nat.le_of_ble_eq_true rfl)⟩, htc _ w_1_214, htc _ ws_4⟩ (rk_preV (va_recv hV.1 hR (ci := 2) (q0 := 0) rfl rfl) (rk_preS hP hD hS hR hn hPL hnl hV [] [(false, 0), (false, 2)] rfl (by decide) rfl (by decide))) rfl rfl hl.1 rfl (lv_room (Nat.le_of_ble_eq_true rfl)) dX9_selectPartitions_36 ⟨(Nat.le_of_ble_eq_true rfl), (Nat.le_of_ble_eq_true rfl)⟩) hP hD hS hA hR0 hn [] [0, 1, 2, 3, 4, 5, 6] rfl rfl (by decide) (by decide) (fun H locs hP hD hS hR => ?_)
          have hP : va_P D vwCl [(a_this, .inr (8, [.ref a_this_buffer, .ref a_this_draft, .ref a_this_desk, .ref a_this_archive, .ref a_this_present])), (a_this_buffer, .inl (cI, 60, .inl c_this_buffer)), (a_this_desk_letters, .inl (cI, 4, .inl c_this_desk_letters)), (a_this_desk_ranks, .inl (cJ, 60, .inr (.inl c_this_desk_ranks))), (a_this_desk_sizes, .inl (cI, 60, .inl c_this_desk_sizes)), (a_this_draft, .inl (cI, 60, .inl c_this_draft)), (q_24, .inr (3, [.int 0, .int 0, .long 0, .int 0]))] H := hP
          have hD : va_D A [(a_this, .inr (8, [.ref a_this_buffer, .ref a_this_draft, .ref a_this_desk, .ref a_this_archive, .ref a_this_present])), (a_this_buffer, .inl (cI, 60, .inl c_this_buffer)), (a_this_desk_letters, .inl (cI, 4, .inl c_this_desk_letters)), (a_this_desk_ranks, .inl (cJ, 60, .inr (.inl c_this_desk_ranks))), (a_this_desk_sizes, .inl (cI, 60, .inl c_this_desk_sizes)), (a_this_draft, .inl (cI, 60, .inl c_this_draft)), (q_24, .inr (3, [.int 0, .int 0, .long 0, .int 0]))] := hD
          refine lv_i2l hx hb dX9_selectPartitions_39 rfl ?_
          obtain ⟨r_40, hc_40, h⟩ := rk_bd h
          refine rk_v (wr := [(a_this, .inr (8, [.ref a_this_buffer, .ref a_this_draft, .ref a_this_desk, .ref a_this_archive, .ref a_this_present])), (a_this_buffer, .inl (cI, 60, .inl c_this_buffer)), (a_this_desk_letters, .inl (cI, 4, .inl c_this_desk_letters)), (a_this_desk_ranks, .inl (cJ, 60, .inr (.inl c_this_desk_ranks))), (a_this_desk_sizes, .inl (cI, 60, .inl c_this_desk_sizes)), (a_this_draft, .inl (cI, 60, .inl c_this_draft))]) (va_runIN (As := [.int v_p1, .int v_p2, .long r_36.toInt64]) (rest := [.ref q_24, .ref a_this]) hF (mtX4_init l D cI cJ cO PL _ q_24 v_p1 v_p2 r_36.toInt64 r_40 hc_40) ⟨va_cnB 3 htc (rk_gw w_2_134) rfl rfl rfl (hV.2.1 _ nw_2_132) (htc _ w_1_12) (by decide +kernel) ⟨(Nat.le_of_ble_eq_true rfl), (Nat.le_of_ble_eq_true rfl)⟩, rfl, htc _ w_2_133⟩ (rk_preS hP hD hS hR hn hPL hnl hV [6] [] rfl (by decide) rfl (by decide)) rfl rfl hl.1 rfl (lv_room (Nat.le_of_ble_eq_true rfl)) dX9_selectPartitions_40 ⟨(Nat.le_of_ble_eq_true rfl), (Nat.le_of_ble_eq_true rfl)⟩) hP hD hS hA hR0 hn [6] [0, 1, 2, 3, 4, 5] rfl rfl (by decide) (by decide) (fun H locs hP hD hS hR => ?_)
          have hP : va_P D vwCl [(a_this, .inr (8, [.ref a_this_buffer, .ref a_this_draft, .ref a_this_desk, .ref a_this_archive, .ref a_this_present])), (a_this_buffer, .inl (cI, 60, .inl c_this_buffer)), (a_this_desk_letters, .inl (cI, 4, .inl c_this_desk_letters)), (a_this_desk_ranks, .inl (cJ, 60, .inr (.inl c_this_desk_ranks))), (a_this_desk_sizes, .inl (cI, 60, .inl c_this_desk_sizes)), (a_this_draft, .inl (cI, 60, .inl c_this_draft)), (q_24, .inr (3, [.int r_40.1, .int r_40.2.1, .long r_40.2.2.1, .int r_40.2.2.2]))] H := hP
          have hD : va_D A [(a_this, .inr (8, [.ref a_this_buffer, .ref a_this_draft, .ref a_this_desk, .ref a_this_archive, .ref a_this_present])), (a_this_buffer, .inl (cI, 60, .inl c_this_buffer)), (a_this_desk_letters, .inl (cI, 4, .inl c_this_desk_letters)), (a_this_desk_ranks, .inl (cJ, 60, .inr (.inl c_this_desk_ranks))), (a_this_desk_sizes, .inl (cI, 60, .inl c_this_desk_sizes)), (a_this_draft, .inl (cI, 60, .inl c_this_draft)), (q_24, .inr (3, [.int r_40.1, .int r_40.2.1, .long r_40.2.2.1, .int r_40.2.2.2]))] := hD
          obtain ⟨r_43, hc_43, h⟩ := rk_bd h
          refine rk_i (wr := [(q_24, .inr (3, [.int r_40.1, .int r_40.2.1, .long r_40.2.2.1, .int r_40.2.2.2]))]) (va_runV (C := RX9) (As := [.ref q_24]) (rest := []) hF (mtX9_choose l D cI cJ cO PL _ a_this a_this_buffer a_this_draft a_this_desk a_this_archive a_this_present q_24 ((4, r_40.1, r_40.2.1, r_40.2.2.1, r_40.2.2.2, 0, 0, 0) : Fm) c_this_buffer c_this_draft a_this_desk_binomials a_this_desk_partitionCounts a_this_desk_treeCounts a_this_desk_sizes a_this_desk_starts a_this_desk_ranks a_this_desk_letters c_this_desk_letters c_this_desk_ranks c_this_desk_sizes c_this_desk_binomials c_this_desk_partitionCounts c_this_desk_treeCounts r_43 hc_43) (cwV 1 htc (rk_gV w_1_176 w_1_178 ws_1 w_1_1 w_1_179) rfl rfl rfl (by decide +kernel) ⟨(Nat.le_of_ble_eq_true rfl), (Nat.le_of_ble_eq_true rfl)⟩) (rk_preV (va_recv hV.1 hP (ci := 8) (q0 := 0) rfl rfl) (rk_preS hP hD hS hR hn hPL hnl hV [0, 1, 2, 3, 4, 5] [(false, 0), (false, 1), (false, 2), (false, 3), (true, 6)] rfl (by decide) rfl (by decide))) rfl rfl hl.1 rfl (lv_room (Nat.le_of_ble_eq_true rfl)) dX9_selectPartitions_43 ⟨(Nat.le_of_ble_eq_true rfl), (Nat.le_of_ble_eq_true rfl)⟩) hP hD hS hA hR0 hn [0, 1, 2, 3, 4, 5] [6] rfl rfl (by decide) (by decide) (fun H locs hP hD hS hR => ?_)
          have hP : va_P D vwCl [(q_24, .inr (3, [.int r_40.1, .int r_40.2.1, .long r_40.2.2.1, .int r_40.2.2.2])), (a_this, .inr (8, [.ref a_this_buffer, .ref a_this_draft, .ref a_this_desk, .ref a_this_archive, .ref q_24])), (a_this_buffer, .inl (cI, 60, .inl r_43.2.1)), (a_this_desk_letters, .inl (cI, 4, .inl r_43.2.2.1)), (a_this_desk_ranks, .inl (cJ, 60, .inr (.inl r_43.2.2.2.1))), (a_this_desk_sizes, .inl (cI, 60, .inl r_43.2.2.2.2.1)), (a_this_draft, .inl (cI, 60, .inl r_43.2.2.2.2.2))] H := hP
          have hD : va_D A [(q_24, .inr (3, [.int r_40.1, .int r_40.2.1, .long r_40.2.2.1, .int r_40.2.2.2])), (a_this, .inr (8, [.ref a_this_buffer, .ref a_this_draft, .ref a_this_desk, .ref a_this_archive, .ref q_24])), (a_this_buffer, .inl (cI, 60, .inl r_43.2.1)), (a_this_desk_letters, .inl (cI, 4, .inl r_43.2.2.1)), (a_this_desk_ranks, .inl (cJ, 60, .inr (.inl r_43.2.2.2.1))), (a_this_desk_sizes, .inl (cI, 60, .inl r_43.2.2.2.2.1)), (a_this_draft, .inl (cI, 60, .inl r_43.2.2.2.2.2))] := hD
          refine W.widen (k := 1) (n := 4) (Nat.le_of_ble_eq_true rfl) (Nat.le_of_ble_eq_true rfl) ?_
          exact hret (r_43.1, (some ((4, r_40.1, r_40.2.1, r_40.2.2.1, r_40.2.2.2, 0, 0, 0) : Fm)), r_43.2.1, r_43.2.2.1, r_43.2.2.2.1, r_43.2.2.2.2.1, r_43.2.2.2.2.2) (rk_qs [q_24]) _ _ _ _ h dX9_selectPartitions_46 (hP.sub [1, 2, 3, 4, 5, 6, 0] rfl) (hD.sub [1, 2, 3, 4, 5, 6, 0] (by decide) rfl) hS
        · have h := rk_nif hc4 h
          refine lv_iconst (v := (-1)) hx hb dX9_selectPartitions_21 (by decide) ?_
          refine W.widen (k := 1) (n := 4) (Nat.le_of_ble_eq_true rfl) (Nat.le_of_ble_eq_true rfl) ?_
          exact hret ((-1 : Int32), (none : Option Fm), c_this_buffer, c_this_desk_letters, c_this_desk_ranks, c_this_desk_sizes, c_this_draft) (rk_qs []) _ _ _ _ h dX9_selectPartitions_22 hP hD hS
set_option maxHeartbeats 4000000 in
set_option maxRecDepth 100000 in
theorem mtX9_isNoLetterCount (l : Launch) (D : va_G) (cI cJ cO : ClassId) (PL : va_W) (sz : Nat) (v_p0 : Int32) (r0 : Int32) (h : fX9_isNoLetterCount v_p0 = some r0) : Met l yX9_isNoLetterCount (rk_w yX9_isNoLetterCount cX9_isNoLetterCount 1 (some .boolean)) rmX9_isNoLetterCount (va_Pc [.int v_p0] (rk_B D (rk_TY cI cJ cO) [] [] PL sz)) (rk_Qi r0 D [] [] sz) 0 0 (va_A [] sz) := by
  refine rk_metz h (fun x : Int32 => x) (fun x => []) (by decide) (Nat.le_of_ble_eq_true rfl) ?_
  intro p e s m args below meth c A ls Q hret hname hF hP hD hA hV hR0 hn hPL hnl hl h hS
  have hx := hF.1
  have hb := hF.2.1
  have hml := hF.2.2.1
  have hown : s.vm.findClass RX9 = some m.cls := hF.2.2.2.1
  have htc := hF.2.2.2.2
  have hP : va_P D vwCl [] s.heap := hP
  have hD : va_D A [] := hD
  have hR0 : va_P D vwCl [] s.heap := hR0
  have hR := hR0
  have hl : lv_has ls 1 [(0, .int v_p0)] := hl
  unfold fX9_isNoLetterCount at h
  refine lv_iload_n hx hb dX9_isNoLetterCount_0 rfl (lv_at hl 0 rfl) ?_
  have B10 : fX9_isNoLetterCount_B10 = some r0 → ∀ (H : Heap) (locs : List Loc), va_P D vwCl [] H → va_D A [] → va_S A s.heap H locs → ∀ (ls : Array Slot), lv_has ls 1 [] → W p l e rmX9_isNoLetterCount s m args below meth c H locs 0 0 Q (F0 m 10 ls []) := by
    intro  h H locs hP hD hS ls hl
    unfold fX9_isNoLetterCount_B10 at h
    refine lv_iconst (v := 1) hx hb dX9_isNoLetterCount_10 (by decide) ?_
    refine lv_goto (tgt := 15) hx hb dX9_isNoLetterCount_11 (by decide) ?_
    exact hret (1 : Int32) _ _ _ _ h rk_nb1 dX9_isNoLetterCount_15 hP hD hS
  refine lv_if_lt (tgt := 10) hx hb dX9_isNoLetterCount_1 (by decide) (fun hc1 => ?_) (fun hc1 => ?_)
  · have h := rk_if hc1 h
    exact B10  h _ _ hP hD hS _ (lv_sub hl [] rfl)
  · have h := rk_nif hc1 h
    refine lv_iload_n hx hb dX9_isNoLetterCount_4 rfl (lv_at hl 0 rfl) ?_
    refine lv_bipush (v := 20) hx hb dX9_isNoLetterCount_5 (by decide) ?_
    refine lv_icmp_le (tgt := 14) hx hb dX9_isNoLetterCount_7 (by decide) (fun hc2 => ?_) (fun hc2 => ?_)
    · have h := rk_if hc2 h
      refine lv_iconst (v := 0) hx hb dX9_isNoLetterCount_14 (by decide) ?_
      exact hret (0 : Int32) _ _ _ _ h rk_nb0 dX9_isNoLetterCount_15 hP hD hS
    · have h := rk_nif hc2 h
      exact B10  h _ _ hP hD hS _ (lv_sub hl [] rfl)
set_option maxHeartbeats 4000000 in
set_option maxRecDepth 100000 in
theorem mtX9_selectArrangements (l : Launch) (D : va_G) (cI cJ cO : ClassId) (PL : va_W) (sz : Nat) (a_this : Nat) (a_this_buffer : Nat) (a_this_draft : Nat) (a_this_desk : Nat) (a_this_archive : Nat) (a_this_present : Nat) (c_this_buffer : Nat → Int32) (c_this_draft : Nat → Int32) (a_this_desk_binomials : Nat) (a_this_desk_partitionCounts : Nat) (a_this_desk_treeCounts : Nat) (a_this_desk_sizes : Nat) (a_this_desk_starts : Nat) (a_this_desk_ranks : Nat) (a_this_desk_letters : Nat) (c_this_desk_letters : Nat → Int32) (c_this_desk_ranks : Nat → Int64) (c_this_desk_sizes : Nat → Int32) (c_this_desk_binomials : Nat → Int64) (c_this_desk_partitionCounts : Nat → Int32) (c_this_desk_treeCounts : Nat → Int64) (v_p1 : Int32) (v_p2 : Int32) (v_p3 : Int32) (v_p4 : Int32) (r0 : Int32 × Option Fm × (Nat → Int32) × (Nat → Int32) × (Nat → Int64) × (Nat → Int32) × (Nat → Int32)) (h : fX9_selectArrangements c_this_buffer c_this_draft c_this_desk_letters c_this_desk_ranks c_this_desk_sizes c_this_desk_binomials c_this_desk_partitionCounts c_this_desk_treeCounts v_p1 v_p2 v_p3 v_p4 = some r0) : Met l yX9_selectArrangements (rk_w yX9_selectArrangements cX9_selectArrangements 8 (some .int)) rmX9_selectArrangements (va_Pc [.ref a_this, .int v_p1, .int v_p2, .int v_p3, .int v_p4] (rk_B D (rk_TY cI cJ cO) [(a_this, .inr (8, [.ref a_this_buffer, .ref a_this_draft, .ref a_this_desk, .ref a_this_archive, .ref a_this_present])), (a_this_buffer, .inl (cI, 60, .inl c_this_buffer)), (a_this_desk_letters, .inl (cI, 4, .inl c_this_desk_letters)), (a_this_desk_ranks, .inl (cJ, 60, .inr (.inl c_this_desk_ranks))), (a_this_desk_sizes, .inl (cI, 60, .inl c_this_desk_sizes)), (a_this_draft, .inl (cI, 60, .inl c_this_draft))] [(a_this_desk, .inr (2, [.ref a_this_desk_binomials, .ref a_this_desk_partitionCounts, .ref a_this_desk_treeCounts, .ref a_this_desk_sizes, .ref a_this_desk_starts, .ref a_this_desk_ranks, .ref a_this_desk_letters])), (a_this_desk_binomials, .inl (cJ, 1891, .inr (.inl c_this_desk_binomials))), (a_this_desk_partitionCounts, .inl (cI, 1891, .inl c_this_desk_partitionCounts)), (a_this_desk_treeCounts, .inl (cJ, 31, .inr (.inl c_this_desk_treeCounts)))] PL sz)) (rk_Qie r0.1 D (fun q => ([(a_this, .inr (8, [.ref a_this_buffer, .ref a_this_draft, .ref a_this_desk, .ref a_this_archive, .ref (rk_pn r0.2.1 a_this_present (q 0))])), (a_this_buffer, .inl (cI, 60, .inl r0.2.2.1)), (a_this_desk_letters, .inl (cI, 4, .inl r0.2.2.2.1)), (a_this_desk_ranks, .inl (cJ, 60, .inr (.inl r0.2.2.2.2.1))), (a_this_desk_sizes, .inl (cI, 60, .inl r0.2.2.2.2.2.1)), (a_this_draft, .inl (cI, 60, .inl r0.2.2.2.2.2.2))] ++ rk_nc r0.2.1 (q 0))) [(a_this, .inr (8, [.ref a_this_buffer, .ref a_this_draft, .ref a_this_desk, .ref a_this_archive, .ref a_this_present])), (a_this_buffer, .inl (cI, 60, .inl c_this_buffer)), (a_this_desk_letters, .inl (cI, 4, .inl c_this_desk_letters)), (a_this_desk_ranks, .inl (cJ, 60, .inr (.inl c_this_desk_ranks))), (a_this_desk_sizes, .inl (cI, 60, .inl c_this_desk_sizes)), (a_this_draft, .inl (cI, 60, .inl c_this_draft))] sz) 1 7 (va_A [(a_this, .inr (8, [.ref a_this_buffer, .ref a_this_draft, .ref a_this_desk, .ref a_this_archive, .ref a_this_present])), (a_this_buffer, .inl (cI, 60, .inl c_this_buffer)), (a_this_desk_letters, .inl (cI, 4, .inl c_this_desk_letters)), (a_this_desk_ranks, .inl (cJ, 60, .inr (.inl c_this_desk_ranks))), (a_this_desk_sizes, .inl (cI, 60, .inl c_this_desk_sizes)), (a_this_draft, .inl (cI, 60, .inl c_this_draft))] sz) := by
  refine rk_metie (y := yX9_selectArrangements) (cc := cX9_selectArrangements) (maxL := 8) (av := [.ref a_this, .int v_p1, .int v_p2, .int v_p3, .int v_p4]) (sz := sz) h (fun x : Int32 × Option Fm × (Nat → Int32) × (Nat → Int32) × (Nat → Int64) × (Nat → Int32) × (Nat → Int32) => x.1) (fun x q => ([(a_this, .inr (8, [.ref a_this_buffer, .ref a_this_draft, .ref a_this_desk, .ref a_this_archive, .ref (rk_pn x.2.1 a_this_present (q 0))])), (a_this_buffer, .inl (cI, 60, .inl x.2.2.1)), (a_this_desk_letters, .inl (cI, 4, .inl x.2.2.2.1)), (a_this_desk_ranks, .inl (cJ, 60, .inr (.inl x.2.2.2.2.1))), (a_this_desk_sizes, .inl (cI, 60, .inl x.2.2.2.2.2.1)), (a_this_draft, .inl (cI, 60, .inl x.2.2.2.2.2.2))] ++ rk_nc x.2.1 (q 0))) (by decide) (Nat.le_of_ble_eq_true rfl) ?_
  intro p e s m args below meth c A ls Q hret hname hF hP hD hA hV hR0 hn hPL hnl hl h hS
  have hx := hF.1
  have hb := hF.2.1
  have hml := hF.2.2.1
  have hown : s.vm.findClass RX9 = some m.cls := hF.2.2.2.1
  have htc := hF.2.2.2.2
  have hP : va_P D vwCl [(a_this, .inr (8, [.ref a_this_buffer, .ref a_this_draft, .ref a_this_desk, .ref a_this_archive, .ref a_this_present])), (a_this_buffer, .inl (cI, 60, .inl c_this_buffer)), (a_this_desk_letters, .inl (cI, 4, .inl c_this_desk_letters)), (a_this_desk_ranks, .inl (cJ, 60, .inr (.inl c_this_desk_ranks))), (a_this_desk_sizes, .inl (cI, 60, .inl c_this_desk_sizes)), (a_this_draft, .inl (cI, 60, .inl c_this_draft))] s.heap := hP
  have hD : va_D A [(a_this, .inr (8, [.ref a_this_buffer, .ref a_this_draft, .ref a_this_desk, .ref a_this_archive, .ref a_this_present])), (a_this_buffer, .inl (cI, 60, .inl c_this_buffer)), (a_this_desk_letters, .inl (cI, 4, .inl c_this_desk_letters)), (a_this_desk_ranks, .inl (cJ, 60, .inr (.inl c_this_desk_ranks))), (a_this_desk_sizes, .inl (cI, 60, .inl c_this_desk_sizes)), (a_this_draft, .inl (cI, 60, .inl c_this_draft))] := hD
  have hR0 : va_P D vwCl [(a_this_desk, .inr (2, [.ref a_this_desk_binomials, .ref a_this_desk_partitionCounts, .ref a_this_desk_treeCounts, .ref a_this_desk_sizes, .ref a_this_desk_starts, .ref a_this_desk_ranks, .ref a_this_desk_letters])), (a_this_desk_binomials, .inl (cJ, 1891, .inr (.inl c_this_desk_binomials))), (a_this_desk_partitionCounts, .inl (cI, 1891, .inl c_this_desk_partitionCounts)), (a_this_desk_treeCounts, .inl (cJ, 31, .inr (.inl c_this_desk_treeCounts)))] s.heap := hR0
  have hR := hR0
  have hl : lv_has ls 8 [(0, .ref a_this), (1, .int v_p1), (2, .int v_p2), (3, .int v_p3), (4, .int v_p4)] := hl
  unfold fX9_selectArrangements at h
  refine lv_iload_n hx hb dX9_selectArrangements_0 rfl (lv_at hl 1 rfl) ?_
  obtain ⟨r_1, hc_1, h⟩ := rk_bd h
  refine rk_i (wr := [(a_this, .inr (8, [.ref a_this_buffer, .ref a_this_draft, .ref a_this_desk, .ref a_this_archive, .ref a_this_present])), (a_this_buffer, .inl (cI, 60, .inl c_this_buffer)), (a_this_desk_letters, .inl (cI, 4, .inl c_this_desk_letters)), (a_this_desk_ranks, .inl (cJ, 60, .inr (.inl c_this_desk_ranks))), (a_this_desk_sizes, .inl (cI, 60, .inl c_this_desk_sizes)), (a_this_draft, .inl (cI, 60, .inl c_this_draft))]) (va_runS (As := [.int v_p1]) (rest := []) hF (mtX9_isNoLetterCount l D cI cJ cO PL _ v_p1 r_1 hc_1) (va_cwS 1 htc (rk_gVS w_2_147 w_2_148 w_1_1 w_2_149) rfl rfl rfl (by decide +kernel) ⟨(Nat.le_of_ble_eq_true rfl), (Nat.le_of_ble_eq_true rfl)⟩) (rk_preS hP hD hS hR hn hPL hnl hV [] [] rfl (by decide) rfl (by decide)) rfl rfl hl.1 rfl (lv_room (Nat.le_of_ble_eq_true rfl)) dX9_selectArrangements_1 ⟨(Nat.le_of_ble_eq_true rfl), (Nat.le_of_ble_eq_true rfl)⟩) hP hD hS hA hR0 hn [] [0, 1, 2, 3, 4, 5] rfl rfl (by decide) (by decide) (fun H locs hP hD hS hR => ?_)
  have hP : va_P D vwCl [(a_this, .inr (8, [.ref a_this_buffer, .ref a_this_draft, .ref a_this_desk, .ref a_this_archive, .ref a_this_present])), (a_this_buffer, .inl (cI, 60, .inl c_this_buffer)), (a_this_desk_letters, .inl (cI, 4, .inl c_this_desk_letters)), (a_this_desk_ranks, .inl (cJ, 60, .inr (.inl c_this_desk_ranks))), (a_this_desk_sizes, .inl (cI, 60, .inl c_this_desk_sizes)), (a_this_draft, .inl (cI, 60, .inl c_this_draft))] H := hP
  have hD : va_D A [(a_this, .inr (8, [.ref a_this_buffer, .ref a_this_draft, .ref a_this_desk, .ref a_this_archive, .ref a_this_present])), (a_this_buffer, .inl (cI, 60, .inl c_this_buffer)), (a_this_desk_letters, .inl (cI, 4, .inl c_this_desk_letters)), (a_this_desk_ranks, .inl (cJ, 60, .inr (.inl c_this_desk_ranks))), (a_this_desk_sizes, .inl (cI, 60, .inl c_this_desk_sizes)), (a_this_draft, .inl (cI, 60, .inl c_this_draft))] := hD
  refine lv_if_ne (tgt := 29) hx hb dX9_selectArrangements_4 (by decide) (fun hc1 => ?_) (fun hc1 => ?_)
  · have h := rk_if hc1 h
    refine lv_iconst (v := (-1)) hx hb dX9_selectArrangements_29 (by decide) ?_
    refine W.widen (k := 1) (n := 7) (Nat.le_of_ble_eq_true rfl) (Nat.le_of_ble_eq_true rfl) ?_
    exact hret ((-1 : Int32), (none : Option Fm), c_this_buffer, c_this_desk_letters, c_this_desk_ranks, c_this_desk_sizes, c_this_draft) (rk_qs []) _ _ _ _ h dX9_selectArrangements_30 hP hD hS
  · have h := rk_nnif hc1 h
    refine lv_iload_n hx hb dX9_selectArrangements_7 rfl (lv_at hl 2 rfl) ?_
    obtain ⟨r_8, hc_8, h⟩ := rk_bd h
    refine rk_i (wr := [(a_this, .inr (8, [.ref a_this_buffer, .ref a_this_draft, .ref a_this_desk, .ref a_this_archive, .ref a_this_present])), (a_this_buffer, .inl (cI, 60, .inl c_this_buffer)), (a_this_desk_letters, .inl (cI, 4, .inl c_this_desk_letters)), (a_this_desk_ranks, .inl (cJ, 60, .inr (.inl c_this_desk_ranks))), (a_this_desk_sizes, .inl (cI, 60, .inl c_this_desk_sizes)), (a_this_draft, .inl (cI, 60, .inl c_this_draft))]) (va_runS (As := [.int v_p2]) (rest := []) hF (mtX9_isNoLetterCount l D cI cJ cO PL _ v_p2 r_8 hc_8) (va_cwS 1 htc (rk_gVS w_2_147 w_2_148 w_1_1 w_2_149) rfl rfl rfl (by decide +kernel) ⟨(Nat.le_of_ble_eq_true rfl), (Nat.le_of_ble_eq_true rfl)⟩) (rk_preS hP hD hS hR hn hPL hnl hV [] [] rfl (by decide) rfl (by decide)) rfl rfl hl.1 rfl (lv_room (Nat.le_of_ble_eq_true rfl)) dX9_selectArrangements_8 ⟨(Nat.le_of_ble_eq_true rfl), (Nat.le_of_ble_eq_true rfl)⟩) hP hD hS hA hR0 hn [] [0, 1, 2, 3, 4, 5] rfl rfl (by decide) (by decide) (fun H locs hP hD hS hR => ?_)
    have hP : va_P D vwCl [(a_this, .inr (8, [.ref a_this_buffer, .ref a_this_draft, .ref a_this_desk, .ref a_this_archive, .ref a_this_present])), (a_this_buffer, .inl (cI, 60, .inl c_this_buffer)), (a_this_desk_letters, .inl (cI, 4, .inl c_this_desk_letters)), (a_this_desk_ranks, .inl (cJ, 60, .inr (.inl c_this_desk_ranks))), (a_this_desk_sizes, .inl (cI, 60, .inl c_this_desk_sizes)), (a_this_draft, .inl (cI, 60, .inl c_this_draft))] H := hP
    have hD : va_D A [(a_this, .inr (8, [.ref a_this_buffer, .ref a_this_draft, .ref a_this_desk, .ref a_this_archive, .ref a_this_present])), (a_this_buffer, .inl (cI, 60, .inl c_this_buffer)), (a_this_desk_letters, .inl (cI, 4, .inl c_this_desk_letters)), (a_this_desk_ranks, .inl (cJ, 60, .inr (.inl c_this_desk_ranks))), (a_this_desk_sizes, .inl (cI, 60, .inl c_this_desk_sizes)), (a_this_draft, .inl (cI, 60, .inl c_this_draft))] := hD
    refine lv_if_ne (tgt := 29) hx hb dX9_selectArrangements_11 (by decide) (fun hc2 => ?_) (fun hc2 => ?_)
    · have h := rk_if hc2 h
      refine lv_iconst (v := (-1)) hx hb dX9_selectArrangements_29 (by decide) ?_
      refine W.widen (k := 1) (n := 7) (Nat.le_of_ble_eq_true rfl) (Nat.le_of_ble_eq_true rfl) ?_
      exact hret ((-1 : Int32), (none : Option Fm), c_this_buffer, c_this_desk_letters, c_this_desk_ranks, c_this_desk_sizes, c_this_draft) (rk_qs []) _ _ _ _ h dX9_selectArrangements_30 hP hD hS
    · have h := rk_nnif hc2 h
      refine lv_iload_n hx hb dX9_selectArrangements_14 rfl (lv_at hl 3 rfl) ?_
      obtain ⟨r_15, hc_15, h⟩ := rk_bd h
      refine rk_i (wr := [(a_this, .inr (8, [.ref a_this_buffer, .ref a_this_draft, .ref a_this_desk, .ref a_this_archive, .ref a_this_present])), (a_this_buffer, .inl (cI, 60, .inl c_this_buffer)), (a_this_desk_letters, .inl (cI, 4, .inl c_this_desk_letters)), (a_this_desk_ranks, .inl (cJ, 60, .inr (.inl c_this_desk_ranks))), (a_this_desk_sizes, .inl (cI, 60, .inl c_this_desk_sizes)), (a_this_draft, .inl (cI, 60, .inl c_this_draft))]) (va_runS (As := [.int v_p3]) (rest := []) hF (mtX9_isNoLetterCount l D cI cJ cO PL _ v_p3 r_15 hc_15) (va_cwS 1 htc (rk_gVS w_2_147 w_2_148 w_1_1 w_2_149) rfl rfl rfl (by decide +kernel) ⟨(Nat.le_of_ble_eq_true rfl), (Nat.le_of_ble_eq_true rfl)⟩) (rk_preS hP hD hS hR hn hPL hnl hV [] [] rfl (by decide) rfl (by decide)) rfl rfl hl.1 rfl (lv_room (Nat.le_of_ble_eq_true rfl)) dX9_selectArrangements_15 ⟨(Nat.le_of_ble_eq_true rfl), (Nat.le_of_ble_eq_true rfl)⟩) hP hD hS hA hR0 hn [] [0, 1, 2, 3, 4, 5] rfl rfl (by decide) (by decide) (fun H locs hP hD hS hR => ?_)
      have hP : va_P D vwCl [(a_this, .inr (8, [.ref a_this_buffer, .ref a_this_draft, .ref a_this_desk, .ref a_this_archive, .ref a_this_present])), (a_this_buffer, .inl (cI, 60, .inl c_this_buffer)), (a_this_desk_letters, .inl (cI, 4, .inl c_this_desk_letters)), (a_this_desk_ranks, .inl (cJ, 60, .inr (.inl c_this_desk_ranks))), (a_this_desk_sizes, .inl (cI, 60, .inl c_this_desk_sizes)), (a_this_draft, .inl (cI, 60, .inl c_this_draft))] H := hP
      have hD : va_D A [(a_this, .inr (8, [.ref a_this_buffer, .ref a_this_draft, .ref a_this_desk, .ref a_this_archive, .ref a_this_present])), (a_this_buffer, .inl (cI, 60, .inl c_this_buffer)), (a_this_desk_letters, .inl (cI, 4, .inl c_this_desk_letters)), (a_this_desk_ranks, .inl (cJ, 60, .inr (.inl c_this_desk_ranks))), (a_this_desk_sizes, .inl (cI, 60, .inl c_this_desk_sizes)), (a_this_draft, .inl (cI, 60, .inl c_this_draft))] := hD
      refine lv_if_ne (tgt := 29) hx hb dX9_selectArrangements_18 (by decide) (fun hc3 => ?_) (fun hc3 => ?_)
      · have h := rk_if hc3 h
        refine lv_iconst (v := (-1)) hx hb dX9_selectArrangements_29 (by decide) ?_
        refine W.widen (k := 1) (n := 7) (Nat.le_of_ble_eq_true rfl) (Nat.le_of_ble_eq_true rfl) ?_
        exact hret ((-1 : Int32), (none : Option Fm), c_this_buffer, c_this_desk_letters, c_this_desk_ranks, c_this_desk_sizes, c_this_draft) (rk_qs []) _ _ _ _ h dX9_selectArrangements_30 hP hD hS
      · have h := rk_nnif hc3 h
        refine lv_iload hx hb dX9_selectArrangements_21 (lv_at hl 4 rfl) ?_
        obtain ⟨r_23, hc_23, h⟩ := rk_bd h
        refine rk_i (wr := [(a_this, .inr (8, [.ref a_this_buffer, .ref a_this_draft, .ref a_this_desk, .ref a_this_archive, .ref a_this_present])), (a_this_buffer, .inl (cI, 60, .inl c_this_buffer)), (a_this_desk_letters, .inl (cI, 4, .inl c_this_desk_letters)), (a_this_desk_ranks, .inl (cJ, 60, .inr (.inl c_this_desk_ranks))), (a_this_desk_sizes, .inl (cI, 60, .inl c_this_desk_sizes)), (a_this_draft, .inl (cI, 60, .inl c_this_draft))]) (va_runS (As := [.int v_p4]) (rest := []) hF (mtX9_isNoLetterCount l D cI cJ cO PL _ v_p4 r_23 hc_23) (va_cwS 1 htc (rk_gVS w_2_147 w_2_148 w_1_1 w_2_149) rfl rfl rfl (by decide +kernel) ⟨(Nat.le_of_ble_eq_true rfl), (Nat.le_of_ble_eq_true rfl)⟩) (rk_preS hP hD hS hR hn hPL hnl hV [] [] rfl (by decide) rfl (by decide)) rfl rfl hl.1 rfl (lv_room (Nat.le_of_ble_eq_true rfl)) dX9_selectArrangements_23 ⟨(Nat.le_of_ble_eq_true rfl), (Nat.le_of_ble_eq_true rfl)⟩) hP hD hS hA hR0 hn [] [0, 1, 2, 3, 4, 5] rfl rfl (by decide) (by decide) (fun H locs hP hD hS hR => ?_)
        have hP : va_P D vwCl [(a_this, .inr (8, [.ref a_this_buffer, .ref a_this_draft, .ref a_this_desk, .ref a_this_archive, .ref a_this_present])), (a_this_buffer, .inl (cI, 60, .inl c_this_buffer)), (a_this_desk_letters, .inl (cI, 4, .inl c_this_desk_letters)), (a_this_desk_ranks, .inl (cJ, 60, .inr (.inl c_this_desk_ranks))), (a_this_desk_sizes, .inl (cI, 60, .inl c_this_desk_sizes)), (a_this_draft, .inl (cI, 60, .inl c_this_draft))] H := hP
        have hD : va_D A [(a_this, .inr (8, [.ref a_this_buffer, .ref a_this_draft, .ref a_this_desk, .ref a_this_archive, .ref a_this_present])), (a_this_buffer, .inl (cI, 60, .inl c_this_buffer)), (a_this_desk_letters, .inl (cI, 4, .inl c_this_desk_letters)), (a_this_desk_ranks, .inl (cJ, 60, .inr (.inl c_this_desk_ranks))), (a_this_desk_sizes, .inl (cI, 60, .inl c_this_desk_sizes)), (a_this_draft, .inl (cI, 60, .inl c_this_draft))] := hD
        refine lv_if_eq (tgt := 31) hx hb dX9_selectArrangements_26 (by decide) (fun hc4 => ?_) (fun hc4 => ?_)
        · have h := rk_if hc4 h
          refine lv_iload_n hx hb dX9_selectArrangements_31 rfl (lv_at hl 1 rfl) ?_
          refine lv_iload_n hx hb dX9_selectArrangements_32 rfl (lv_at hl 2 rfl) ?_
          refine lv_iadd hx hb dX9_selectArrangements_33 ?_
          refine lv_iload_n hx hb dX9_selectArrangements_34 rfl (lv_at hl 3 rfl) ?_
          refine lv_iadd hx hb dX9_selectArrangements_35 ?_
          refine lv_iload hx hb dX9_selectArrangements_36 (lv_at hl 4 rfl) ?_
          refine lv_iadd hx hb dX9_selectArrangements_38 ?_
          refine lv_istore (lv' := [(5, .int (((v_p1 + v_p2) + v_p3) + v_p4)), (0, .ref a_this), (1, .int v_p1), (2, .int v_p2), (3, .int v_p3), (4, .int v_p4)]) hx hb dX9_selectArrangements_39 hl (by decide) rfl (fun ls hl => ?_)
          refine lv_iload hx hb dX9_selectArrangements_41 (lv_at hl 0 rfl) ?_
          refine lv_iconst (v := 1) hx hb dX9_selectArrangements_43 (by decide) ?_
          refine lv_icmp_lt (tgt := 54) hx hb dX9_selectArrangements_44 (by decide) (fun hc5 => ?_) (fun hc5 => ?_)
          · have h := rk_if hc5 h
            refine lv_iconst (v := (-1)) hx hb dX9_selectArrangements_54 (by decide) ?_
            refine W.widen (k := 1) (n := 7) (Nat.le_of_ble_eq_true rfl) (Nat.le_of_ble_eq_true rfl) ?_
            exact hret ((-1 : Int32), (none : Option Fm), c_this_buffer, c_this_desk_letters, c_this_desk_ranks, c_this_desk_sizes, c_this_draft) (rk_qs []) _ _ _ _ h dX9_selectArrangements_55 hP hD hS
          · have h := rk_nif hc5 h
            refine lv_iload hx hb dX9_selectArrangements_47 (lv_at hl 0 rfl) ?_
            refine lv_bipush (v := 20) hx hb dX9_selectArrangements_49 (by decide) ?_
            refine lv_icmp_le (tgt := 56) hx hb dX9_selectArrangements_51 (by decide) (fun hc6 => ?_) (fun hc6 => ?_)
            · have h := rk_if hc6 h
              refine lv_aload_n hx hb dX9_selectArrangements_56 rfl (lv_at hl 1 rfl) ?_
              refine va_get (D := D) (ci := 8) (v := .ref a_this_desk) (C := RX9) (T := TX9) (N := 5) hx hb htc inX9 hown hV.1 hP 0 rfl rfl 2 (by decide) (htc _ w_1_154) (fun _ h9 => h9) rfl dX9_selectArrangements_57 ?_
              refine lv_iload_n hx hb dX9_selectArrangements_60 rfl (lv_at hl 2 rfl) ?_
              refine lv_iload_n hx hb dX9_selectArrangements_61 rfl (lv_at hl 3 rfl) ?_
              refine lv_iload_n hx hb dX9_selectArrangements_62 rfl (lv_at hl 4 rfl) ?_
              refine lv_iload hx hb dX9_selectArrangements_63 (lv_at hl 5 rfl) ?_
              obtain ⟨r_65, hc_65, h⟩ := rk_bd h
              refine rk_l (wr := [(a_this, .inr (8, [.ref a_this_buffer, .ref a_this_draft, .ref a_this_desk, .ref a_this_archive, .ref a_this_present])), (a_this_buffer, .inl (cI, 60, .inl c_this_buffer)), (a_this_desk_letters, .inl (cI, 4, .inl c_this_desk_letters)), (a_this_desk_ranks, .inl (cJ, 60, .inr (.inl c_this_desk_ranks))), (a_this_desk_sizes, .inl (cI, 60, .inl c_this_desk_sizes)), (a_this_draft, .inl (cI, 60, .inl c_this_draft))]) (va_runVN (C := RX2) (As := [.int v_p1, .int v_p2, .int v_p3, .int v_p4]) (rest := []) hF (mtX2_arrangements l D cI cJ cO PL _ a_this_desk a_this_desk_binomials a_this_desk_partitionCounts a_this_desk_treeCounts a_this_desk_sizes a_this_desk_starts a_this_desk_ranks a_this_desk_letters c_this_desk_binomials v_p1 v_p2 v_p3 v_p4 r_65 hc_65) ⟨va_cnB 4 htc (rk_gw w_1_206) rfl rfl rfl (hV.2.1 _ nw_2_150) (htc _ w_1_2) (by decide +kernel) ⟨(Nat.le_of_ble_eq_true rfl), (Nat.le_of_ble_eq_true rfl)⟩, htc _ w_1_205, htc _ ws_3⟩ (rk_preV (va_recv hV.1 hR (ci := 2) (q0 := 0) rfl rfl) (rk_preS hP hD hS hR hn hPL hnl hV [] [(false, 0), (false, 1)] rfl (by decide) rfl (by decide))) rfl rfl hl.1 rfl (lv_room (Nat.le_of_ble_eq_true rfl)) dX9_selectArrangements_65 ⟨(Nat.le_of_ble_eq_true rfl), (Nat.le_of_ble_eq_true rfl)⟩) hP hD hS hA hR0 hn [] [0, 1, 2, 3, 4, 5] rfl rfl (by decide) (by decide) (fun H locs hP hD hS hR => ?_)
              have hP : va_P D vwCl [(a_this, .inr (8, [.ref a_this_buffer, .ref a_this_draft, .ref a_this_desk, .ref a_this_archive, .ref a_this_present])), (a_this_buffer, .inl (cI, 60, .inl c_this_buffer)), (a_this_desk_letters, .inl (cI, 4, .inl c_this_desk_letters)), (a_this_desk_ranks, .inl (cJ, 60, .inr (.inl c_this_desk_ranks))), (a_this_desk_sizes, .inl (cI, 60, .inl c_this_desk_sizes)), (a_this_draft, .inl (cI, 60, .inl c_this_draft))] H := hP
              have hD : va_D A [(a_this, .inr (8, [.ref a_this_buffer, .ref a_this_draft, .ref a_this_desk, .ref a_this_archive, .ref a_this_present])), (a_this_buffer, .inl (cI, 60, .inl c_this_buffer)), (a_this_desk_letters, .inl (cI, 4, .inl c_this_desk_letters)), (a_this_desk_ranks, .inl (cJ, 60, .inr (.inl c_this_desk_ranks))), (a_this_desk_sizes, .inl (cI, 60, .inl c_this_desk_sizes)), (a_this_draft, .inl (cI, 60, .inl c_this_draft))] := hD
              refine lv_lstore (lv' := [(6, .long r_65), (5, .int (((v_p1 + v_p2) + v_p3) + v_p4)), (0, .ref a_this), (1, .int v_p1), (2, .int v_p2), (3, .int v_p3), (4, .int v_p4)]) hx hb dX9_selectArrangements_68 hl (by decide) rfl (fun ls hl => ?_)
              refine lv_aload_n hx hb dX9_selectArrangements_70 rfl (lv_at hl 2 rfl) ?_
              refine va_new (ci := 1) (fs := [.int 0, .int 0, .long 0, .int 0, .int 0, .int 0, .int 0]) (C := RX1) (T := TX1) (N := 7) hx hb htc inX1 tyX1 tyX1_ok hown (htc _ w_2_151) (htc _ w_1_189) (htc _ w_1_8) hV.1 hP hD hS hA rfl (fun j hj => by rcases (show j = 0 ∨ j = 1 ∨ j = 2 ∨ j = 3 ∨ j = 4 ∨ j = 5 ∨ j = 6 by omega) with rfl | rfl | rfl | rfl | rfl | rfl | rfl <;> rfl) (Nat.le_of_ble_eq_true rfl) (Nat.le_of_ble_eq_true rfl) dX9_selectArrangements_71 (fun q_71 H hP hD hS => ?_)
              have hP : va_P D vwCl [(a_this, .inr (8, [.ref a_this_buffer, .ref a_this_draft, .ref a_this_desk, .ref a_this_archive, .ref a_this_present])), (a_this_buffer, .inl (cI, 60, .inl c_this_buffer)), (a_this_desk_letters, .inl (cI, 4, .inl c_this_desk_letters)), (a_this_desk_ranks, .inl (cJ, 60, .inr (.inl c_this_desk_ranks))), (a_this_desk_sizes, .inl (cI, 60, .inl c_this_desk_sizes)), (a_this_draft, .inl (cI, 60, .inl c_this_draft)), (q_71, .inr (1, [.int 0, .int 0, .long 0, .int 0, .int 0, .int 0, .int 0]))] H := hP
              have hD : va_D A [(a_this, .inr (8, [.ref a_this_buffer, .ref a_this_draft, .ref a_this_desk, .ref a_this_archive, .ref a_this_present])), (a_this_buffer, .inl (cI, 60, .inl c_this_buffer)), (a_this_desk_letters, .inl (cI, 4, .inl c_this_desk_letters)), (a_this_desk_ranks, .inl (cJ, 60, .inr (.inl c_this_desk_ranks))), (a_this_desk_sizes, .inl (cI, 60, .inl c_this_desk_sizes)), (a_this_draft, .inl (cI, 60, .inl c_this_draft)), (q_71, .inr (1, [.int 0, .int 0, .long 0, .int 0, .int 0, .int 0, .int 0]))] := hD
              have hR := rk_keep hR0 hn hS
              refine lv_dup hx hb dX9_selectArrangements_74 rfl ?_
              refine lv_iload_n hx hb dX9_selectArrangements_75 rfl (lv_at hl 3 rfl) ?_
              refine lv_iload_n hx hb dX9_selectArrangements_76 rfl (lv_at hl 4 rfl) ?_
              refine lv_iload_n hx hb dX9_selectArrangements_77 rfl (lv_at hl 5 rfl) ?_
              refine lv_iload hx hb dX9_selectArrangements_78 (lv_at hl 6 rfl) ?_
              refine lv_lload hx hb dX9_selectArrangements_80 (lv_at hl 0 rfl) ?_
              obtain ⟨r_82, hc_82, h⟩ := rk_bd h
              refine rk_v (wr := [(a_this, .inr (8, [.ref a_this_buffer, .ref a_this_draft, .ref a_this_desk, .ref a_this_archive, .ref a_this_present])), (a_this_buffer, .inl (cI, 60, .inl c_this_buffer)), (a_this_desk_letters, .inl (cI, 4, .inl c_this_desk_letters)), (a_this_desk_ranks, .inl (cJ, 60, .inr (.inl c_this_desk_ranks))), (a_this_desk_sizes, .inl (cI, 60, .inl c_this_desk_sizes)), (a_this_draft, .inl (cI, 60, .inl c_this_draft))]) (va_runIN (As := [.int v_p1, .int v_p2, .int v_p3, .int v_p4, .long r_65]) (rest := [.ref q_71, .ref a_this]) hF (mtX1_init l D cI cJ cO PL _ q_71 v_p1 v_p2 v_p3 v_p4 r_65 r_82 hc_82) ⟨va_cnB 5 htc (rk_gw w_2_154) rfl rfl rfl (hV.2.1 _ nw_2_152) (htc _ w_1_8) (by decide +kernel) ⟨(Nat.le_of_ble_eq_true rfl), (Nat.le_of_ble_eq_true rfl)⟩, rfl, htc _ w_2_153⟩ (rk_preS hP hD hS hR hn hPL hnl hV [6] [] rfl (by decide) rfl (by decide)) rfl rfl hl.1 rfl (lv_room (Nat.le_of_ble_eq_true rfl)) dX9_selectArrangements_82 ⟨(Nat.le_of_ble_eq_true rfl), (Nat.le_of_ble_eq_true rfl)⟩) hP hD hS hA hR0 hn [6] [0, 1, 2, 3, 4, 5] rfl rfl (by decide) (by decide) (fun H locs hP hD hS hR => ?_)
              have hP : va_P D vwCl [(a_this, .inr (8, [.ref a_this_buffer, .ref a_this_draft, .ref a_this_desk, .ref a_this_archive, .ref a_this_present])), (a_this_buffer, .inl (cI, 60, .inl c_this_buffer)), (a_this_desk_letters, .inl (cI, 4, .inl c_this_desk_letters)), (a_this_desk_ranks, .inl (cJ, 60, .inr (.inl c_this_desk_ranks))), (a_this_desk_sizes, .inl (cI, 60, .inl c_this_desk_sizes)), (a_this_draft, .inl (cI, 60, .inl c_this_draft)), (q_71, .inr (1, [.int r_82.1, .int r_82.2.1, .long r_82.2.2.1, .int r_82.2.2.2.1, .int r_82.2.2.2.2.1, .int r_82.2.2.2.2.2.1, .int r_82.2.2.2.2.2.2]))] H := hP
              have hD : va_D A [(a_this, .inr (8, [.ref a_this_buffer, .ref a_this_draft, .ref a_this_desk, .ref a_this_archive, .ref a_this_present])), (a_this_buffer, .inl (cI, 60, .inl c_this_buffer)), (a_this_desk_letters, .inl (cI, 4, .inl c_this_desk_letters)), (a_this_desk_ranks, .inl (cJ, 60, .inr (.inl c_this_desk_ranks))), (a_this_desk_sizes, .inl (cI, 60, .inl c_this_desk_sizes)), (a_this_draft, .inl (cI, 60, .inl c_this_draft)), (q_71, .inr (1, [.int r_82.1, .int r_82.2.1, .long r_82.2.2.1, .int r_82.2.2.2.1, .int r_82.2.2.2.2.1, .int r_82.2.2.2.2.2.1, .int r_82.2.2.2.2.2.2]))] := hD
              obtain ⟨r_85, hc_85, h⟩ := rk_bd h
              refine rk_i (wr := [(q_71, .inr (1, [.int r_82.1, .int r_82.2.1, .long r_82.2.2.1, .int r_82.2.2.2.1, .int r_82.2.2.2.2.1, .int r_82.2.2.2.2.2.1, .int r_82.2.2.2.2.2.2]))]) (va_runV (C := RX9) (As := [.ref q_71]) (rest := []) hF (mtX9_choose l D cI cJ cO PL _ a_this a_this_buffer a_this_draft a_this_desk a_this_archive a_this_present q_71 ((5, r_82.1, r_82.2.1, r_82.2.2.1, r_82.2.2.2.1, r_82.2.2.2.2.1, r_82.2.2.2.2.2.1, r_82.2.2.2.2.2.2) : Fm) c_this_buffer c_this_draft a_this_desk_binomials a_this_desk_partitionCounts a_this_desk_treeCounts a_this_desk_sizes a_this_desk_starts a_this_desk_ranks a_this_desk_letters c_this_desk_letters c_this_desk_ranks c_this_desk_sizes c_this_desk_binomials c_this_desk_partitionCounts c_this_desk_treeCounts r_85 hc_85) (cwV 1 htc (rk_gV w_1_176 w_1_178 ws_1 w_1_1 w_1_179) rfl rfl rfl (by decide +kernel) ⟨(Nat.le_of_ble_eq_true rfl), (Nat.le_of_ble_eq_true rfl)⟩) (rk_preV (va_recv hV.1 hP (ci := 8) (q0 := 0) rfl rfl) (rk_preS hP hD hS hR hn hPL hnl hV [0, 1, 2, 3, 4, 5] [(false, 0), (false, 1), (false, 2), (false, 3), (true, 6)] rfl (by decide) rfl (by decide))) rfl rfl hl.1 rfl (lv_room (Nat.le_of_ble_eq_true rfl)) dX9_selectArrangements_85 ⟨(Nat.le_of_ble_eq_true rfl), (Nat.le_of_ble_eq_true rfl)⟩) hP hD hS hA hR0 hn [0, 1, 2, 3, 4, 5] [6] rfl rfl (by decide) (by decide) (fun H locs hP hD hS hR => ?_)
              have hP : va_P D vwCl [(q_71, .inr (1, [.int r_82.1, .int r_82.2.1, .long r_82.2.2.1, .int r_82.2.2.2.1, .int r_82.2.2.2.2.1, .int r_82.2.2.2.2.2.1, .int r_82.2.2.2.2.2.2])), (a_this, .inr (8, [.ref a_this_buffer, .ref a_this_draft, .ref a_this_desk, .ref a_this_archive, .ref q_71])), (a_this_buffer, .inl (cI, 60, .inl r_85.2.1)), (a_this_desk_letters, .inl (cI, 4, .inl r_85.2.2.1)), (a_this_desk_ranks, .inl (cJ, 60, .inr (.inl r_85.2.2.2.1))), (a_this_desk_sizes, .inl (cI, 60, .inl r_85.2.2.2.2.1)), (a_this_draft, .inl (cI, 60, .inl r_85.2.2.2.2.2))] H := hP
              have hD : va_D A [(q_71, .inr (1, [.int r_82.1, .int r_82.2.1, .long r_82.2.2.1, .int r_82.2.2.2.1, .int r_82.2.2.2.2.1, .int r_82.2.2.2.2.2.1, .int r_82.2.2.2.2.2.2])), (a_this, .inr (8, [.ref a_this_buffer, .ref a_this_draft, .ref a_this_desk, .ref a_this_archive, .ref q_71])), (a_this_buffer, .inl (cI, 60, .inl r_85.2.1)), (a_this_desk_letters, .inl (cI, 4, .inl r_85.2.2.1)), (a_this_desk_ranks, .inl (cJ, 60, .inr (.inl r_85.2.2.2.1))), (a_this_desk_sizes, .inl (cI, 60, .inl r_85.2.2.2.2.1)), (a_this_draft, .inl (cI, 60, .inl r_85.2.2.2.2.2))] := hD
              refine W.widen (k := 1) (n := 7) (Nat.le_of_ble_eq_true rfl) (Nat.le_of_ble_eq_true rfl) ?_
              exact hret (r_85.1, (some ((5, r_82.1, r_82.2.1, r_82.2.2.1, r_82.2.2.2.1, r_82.2.2.2.2.1, r_82.2.2.2.2.2.1, r_82.2.2.2.2.2.2) : Fm)), r_85.2.1, r_85.2.2.1, r_85.2.2.2.1, r_85.2.2.2.2.1, r_85.2.2.2.2.2) (rk_qs [q_71]) _ _ _ _ h dX9_selectArrangements_88 (hP.sub [1, 2, 3, 4, 5, 6, 0] rfl) (hD.sub [1, 2, 3, 4, 5, 6, 0] (by decide) rfl) hS
            · have h := rk_nif hc6 h
              refine lv_iconst (v := (-1)) hx hb dX9_selectArrangements_54 (by decide) ?_
              refine W.widen (k := 1) (n := 7) (Nat.le_of_ble_eq_true rfl) (Nat.le_of_ble_eq_true rfl) ?_
              exact hret ((-1 : Int32), (none : Option Fm), c_this_buffer, c_this_desk_letters, c_this_desk_ranks, c_this_desk_sizes, c_this_draft) (rk_qs []) _ _ _ _ h dX9_selectArrangements_55 hP hD hS
        · have h := rk_nif hc4 h
          refine lv_iconst (v := (-1)) hx hb dX9_selectArrangements_29 (by decide) ?_
          refine W.widen (k := 1) (n := 7) (Nat.le_of_ble_eq_true rfl) (Nat.le_of_ble_eq_true rfl) ?_
          exact hret ((-1 : Int32), (none : Option Fm), c_this_buffer, c_this_desk_letters, c_this_desk_ranks, c_this_desk_sizes, c_this_draft) (rk_qs []) _ _ _ _ h dX9_selectArrangements_30 hP hD hS
set_option maxHeartbeats 4000000 in
set_option maxRecDepth 100000 in
theorem mtX9_family (l : Launch) (D : va_G) (cI cJ cO : ClassId) (PL : va_W) (sz : Nat) (a_this : Nat) (a_this_buffer : Nat) (a_this_draft : Nat) (a_this_desk : Nat) (a_this_archive : Nat) (a_this_present : Nat) (F_this_present : Fm) (r0 : Int32) (h : fX9_family F_this_present = some r0) : Met l yX9_family (rk_w yX9_family cX9_family 1 (some .int)) rmX9_family (va_Pc [.ref a_this] (rk_B D (rk_TY cI cJ cO) [] [(a_this, .inr (8, [.ref a_this_buffer, .ref a_this_draft, .ref a_this_desk, .ref a_this_archive, .ref a_this_present])), (a_this_present, rk_fam F_this_present)] PL sz)) (rk_Qi r0 D [] [] sz) 0 0 (va_A [] sz) := by
  refine rk_meti h (fun x : Int32 => x) (fun x => []) (by decide) (Nat.le_of_ble_eq_true rfl) ?_
  intro p e s m args below meth c A ls Q hret hname hF hP hD hA hV hR0 hn hPL hnl hl h hS
  have hx := hF.1
  have hb := hF.2.1
  have hml := hF.2.2.1
  have hown : s.vm.findClass RX9 = some m.cls := hF.2.2.2.1
  have htc := hF.2.2.2.2
  have hP : va_P D vwCl [] s.heap := hP
  have hD : va_D A [] := hD
  have hR0 : va_P D vwCl [(a_this, .inr (8, [.ref a_this_buffer, .ref a_this_draft, .ref a_this_desk, .ref a_this_archive, .ref a_this_present])), (a_this_present, rk_fam F_this_present)] s.heap := hR0
  have hR := hR0
  have hl : lv_has ls 1 [(0, .ref a_this)] := hl
  unfold fX9_family at h
  refine lv_aload_n hx hb dX9_family_0 rfl (lv_at hl 0 rfl) ?_
  refine va_get (D := D) (ci := 8) (v := .ref a_this_present) (C := RX9) (T := TX9) (N := 5) hx hb htc inX9 hown hV.1 hR 0 rfl rfl 4 (by decide) (htc _ w_1_156) (fun _ h9 => h9) rfl dX9_family_1 ?_
  refine rk_fget_number hx hb htc hown hV.1 hR 1 rfl (htc _ w_1_120) dX9_family_4 ?_
  exact hret F_this_present.2.1 _ _ _ _ h dX9_family_7 hP hD hS
set_option maxHeartbeats 4000000 in
set_option maxRecDepth 100000 in
theorem mtX9_parameter (l : Launch) (D : va_G) (cI cJ cO : ClassId) (PL : va_W) (sz : Nat) (a_this : Nat) (a_this_buffer : Nat) (a_this_draft : Nat) (a_this_desk : Nat) (a_this_archive : Nat) (a_this_present : Nat) (F_this_present : Fm) (v_p1 : Int32) (r0 : Int32) (h : fX9_parameter F_this_present v_p1 = some r0) : Met l yX9_parameter (rk_w yX9_parameter cX9_parameter 2 (some .int)) rmX9_parameter (va_Pc [.ref a_this, .int v_p1] (rk_B D (rk_TY cI cJ cO) [] [(a_this, .inr (8, [.ref a_this_buffer, .ref a_this_draft, .ref a_this_desk, .ref a_this_archive, .ref a_this_present])), (a_this_present, rk_fam F_this_present)] PL sz)) (rk_Qi r0 D [] [] sz) 0 0 (va_A [] sz) := by
  refine rk_meti h (fun x : Int32 => x) (fun x => []) (by decide) (Nat.le_of_ble_eq_true rfl) ?_
  intro p e s m args below meth c A ls Q hret hname hF hP hD hA hV hR0 hn hPL hnl hl h hS
  have hx := hF.1
  have hb := hF.2.1
  have hml := hF.2.2.1
  have hown : s.vm.findClass RX9 = some m.cls := hF.2.2.2.1
  have htc := hF.2.2.2.2
  have hP : va_P D vwCl [] s.heap := hP
  have hD : va_D A [] := hD
  have hR0 : va_P D vwCl [(a_this, .inr (8, [.ref a_this_buffer, .ref a_this_draft, .ref a_this_desk, .ref a_this_archive, .ref a_this_present])), (a_this_present, rk_fam F_this_present)] s.heap := hR0
  have hR := hR0
  have hl : lv_has ls 2 [(0, .ref a_this), (1, .int v_p1)] := hl
  unfold fX9_parameter at h
  refine lv_iload_n hx hb dX9_parameter_0 rfl (lv_at hl 1 rfl) ?_
  have B9 : fX9_parameter_B9 = some r0 → ∀ (H : Heap) (locs : List Loc), va_P D vwCl [] H → va_D A [] → va_S A s.heap H locs → ∀ (ls : Array Slot), lv_has ls 2 [] → W p l e rmX9_parameter s m args below meth c H locs 0 0 Q (F0 m 9 ls []) := by
    intro  h H locs hP hD hS ls hl
    unfold fX9_parameter_B9 at h
    have hR := rk_keep hR0 hn hS
    refine lv_iconst (v := (-1)) hx hb dX9_parameter_9 (by decide) ?_
    refine lv_goto (tgt := 21) hx hb dX9_parameter_10 (by decide) ?_
    exact hret (-1 : Int32) _ _ _ _ h dX9_parameter_21 hP hD hS
  refine lv_if_lt (tgt := 9) hx hb dX9_parameter_1 (by decide) (fun hc1 => ?_) (fun hc1 => ?_)
  · have h := rk_if hc1 h
    exact B9  h _ _ hP hD hS _ (lv_sub hl [] rfl)
  · have h := rk_nif hc1 h
    refine lv_iload_n hx hb dX9_parameter_4 rfl (lv_at hl 1 rfl) ?_
    refine lv_iconst (v := 4) hx hb dX9_parameter_5 (by decide) ?_
    refine lv_icmp_lt (tgt := 13) hx hb dX9_parameter_6 (by decide) (fun hc2 => ?_) (fun hc2 => ?_)
    · have h := rk_if hc2 h
      refine lv_aload_n hx hb dX9_parameter_13 rfl (lv_at hl 0 rfl) ?_
      refine va_get (D := D) (ci := 8) (v := .ref a_this_present) (C := RX9) (T := TX9) (N := 5) hx hb htc inX9 hown hV.1 hR 0 rfl rfl 4 (by decide) (htc _ w_1_156) (fun _ h9 => h9) rfl dX9_parameter_14 ?_
      refine lv_iload_n hx hb dX9_parameter_17 rfl (lv_at hl 1 rfl) ?_
      obtain ⟨r_18, hc_18, h⟩ := rk_bd h
      refine rk_i (wr := []) (vr_setting (As := [.int v_p1]) (rest := []) hF htc hV w_2_180 rfl PL a_this_present F_this_present v_p1 r_18 hc_18 (hR 1 _ rfl) (rk_preS hP hD hS hR hn hPL hnl hV [] [(false, 1)] rfl (by decide) rfl (by decide)) rfl rfl hl.1 rfl (lv_room (Nat.le_of_ble_eq_true rfl)) dX9_parameter_18 ⟨(Nat.le_of_ble_eq_true rfl), (Nat.le_of_ble_eq_true rfl)⟩ (Nat.le_of_ble_eq_true rfl) (Nat.le_of_ble_eq_true rfl) rfl) hP hD hS hA hR0 hn [] [] rfl rfl (by decide) (by decide) (fun H locs hP hD hS hR => ?_)
      have hP : va_P D vwCl [] H := hP
      have hD : va_D A [] := hD
      exact hret r_18 _ _ _ _ h dX9_parameter_21 hP hD hS
    · have h := rk_nif hc2 h
      exact B9  h _ _ hP hD hS _ (lv_sub hl [] rfl)
set_option maxHeartbeats 4000000 in
set_option maxRecDepth 100000 in
theorem mtX9_length (l : Launch) (D : va_G) (cI cJ cO : ClassId) (PL : va_W) (sz : Nat) (a_this : Nat) (a_this_buffer : Nat) (a_this_draft : Nat) (a_this_desk : Nat) (a_this_archive : Nat) (a_this_present : Nat) (F_this_present : Fm) (r0 : Int32) (h : fX9_length F_this_present = some r0) : Met l yX9_length (rk_w yX9_length cX9_length 1 (some .int)) rmX9_length (va_Pc [.ref a_this] (rk_B D (rk_TY cI cJ cO) [] [(a_this, .inr (8, [.ref a_this_buffer, .ref a_this_draft, .ref a_this_desk, .ref a_this_archive, .ref a_this_present])), (a_this_present, rk_fam F_this_present)] PL sz)) (rk_Qi r0 D [] [] sz) 0 0 (va_A [] sz) := by
  refine rk_meti h (fun x : Int32 => x) (fun x => []) (by decide) (Nat.le_of_ble_eq_true rfl) ?_
  intro p e s m args below meth c A ls Q hret hname hF hP hD hA hV hR0 hn hPL hnl hl h hS
  have hx := hF.1
  have hb := hF.2.1
  have hml := hF.2.2.1
  have hown : s.vm.findClass RX9 = some m.cls := hF.2.2.2.1
  have htc := hF.2.2.2.2
  have hP : va_P D vwCl [] s.heap := hP
  have hD : va_D A [] := hD
  have hR0 : va_P D vwCl [(a_this, .inr (8, [.ref a_this_buffer, .ref a_this_draft, .ref a_this_desk, .ref a_this_archive, .ref a_this_present])), (a_this_present, rk_fam F_this_present)] s.heap := hR0
  have hR := hR0
  have hl : lv_has ls 1 [(0, .ref a_this)] := hl
  unfold fX9_length at h
  refine lv_aload_n hx hb dX9_length_0 rfl (lv_at hl 0 rfl) ?_
  refine va_get (D := D) (ci := 8) (v := .ref a_this_present) (C := RX9) (T := TX9) (N := 5) hx hb htc inX9 hown hV.1 hR 0 rfl rfl 4 (by decide) (htc _ w_1_156) (fun _ h9 => h9) rfl dX9_length_1 ?_
  refine rk_fget_width hx hb htc hown hV.1 hR 1 rfl (htc _ w_1_135) dX9_length_4 ?_
  exact hret F_this_present.2.2.1 _ _ _ _ h dX9_length_7 hP hD hS
set_option maxHeartbeats 4000000 in
set_option maxRecDepth 100000 in
theorem mtX9_count (l : Launch) (D : va_G) (cI cJ cO : ClassId) (PL : va_W) (sz : Nat) (a_this : Nat) (a_this_buffer : Nat) (a_this_draft : Nat) (a_this_desk : Nat) (a_this_archive : Nat) (a_this_present : Nat) (F_this_present : Fm) (r0 : Int64) (h : fX9_count F_this_present = some r0) : Met l yX9_count (rk_w yX9_count cX9_count 1 (some .long)) rmX9_count (va_Pc [.ref a_this] (rk_B D (rk_TY cI cJ cO) [] [(a_this, .inr (8, [.ref a_this_buffer, .ref a_this_draft, .ref a_this_desk, .ref a_this_archive, .ref a_this_present])), (a_this_present, rk_fam F_this_present)] PL sz)) (rk_Ql r0 D [] [] sz) 0 0 (va_A [] sz) := by
  refine rk_metl h (fun x : Int64 => x) (fun x => []) (by decide) (Nat.le_of_ble_eq_true rfl) ?_
  intro p e s m args below meth c A ls Q hret hname hF hP hD hA hV hR0 hn hPL hnl hl h hS
  have hx := hF.1
  have hb := hF.2.1
  have hml := hF.2.2.1
  have hown : s.vm.findClass RX9 = some m.cls := hF.2.2.2.1
  have htc := hF.2.2.2.2
  have hP : va_P D vwCl [] s.heap := hP
  have hD : va_D A [] := hD
  have hR0 : va_P D vwCl [(a_this, .inr (8, [.ref a_this_buffer, .ref a_this_draft, .ref a_this_desk, .ref a_this_archive, .ref a_this_present])), (a_this_present, rk_fam F_this_present)] s.heap := hR0
  have hR := hR0
  have hl : lv_has ls 1 [(0, .ref a_this)] := hl
  unfold fX9_count at h
  refine lv_aload_n hx hb dX9_count_0 rfl (lv_at hl 0 rfl) ?_
  refine va_get (D := D) (ci := 8) (v := .ref a_this_present) (C := RX9) (T := TX9) (N := 5) hx hb htc inX9 hown hV.1 hR 0 rfl rfl 4 (by decide) (htc _ w_1_156) (fun _ h9 => h9) rfl dX9_count_1 ?_
  refine rk_fget_size hx hb htc hown hV.1 hR 1 rfl (htc _ w_1_140) dX9_count_4 ?_
  exact hret F_this_present.2.2.2.1 _ _ _ _ h dX9_count_7 hP hD hS
set_option maxHeartbeats 4000000 in
set_option maxRecDepth 100000 in
theorem mtX9_put (l : Launch) (D : va_G) (cI cJ cO : ClassId) (PL : va_W) (sz : Nat) (a_this : Nat) (a_this_buffer : Nat) (a_this_draft : Nat) (a_this_desk : Nat) (a_this_archive : Nat) (a_this_present : Nat) (c_this_buffer : Nat → Int32) (v_p1 : Int32) (v_p2 : Int32) (r0 : Int32 × (Nat → Int32)) (h : fX9_put c_this_buffer v_p1 v_p2 = some r0) : Met l yX9_put (rk_w yX9_put cX9_put 4 (some .int)) rmX9_put (va_Pc [.ref a_this, .int v_p1, .int v_p2] (rk_B D (rk_TY cI cJ cO) [(a_this_buffer, .inl (cI, 60, .inl c_this_buffer))] [(a_this, .inr (8, [.ref a_this_buffer, .ref a_this_draft, .ref a_this_desk, .ref a_this_archive, .ref a_this_present]))] PL sz)) (rk_Qi r0.1 D [(a_this_buffer, .inl (cI, 60, .inl r0.2))] [(a_this_buffer, .inl (cI, 60, .inl c_this_buffer))] sz) 0 0 (va_A [(a_this_buffer, .inl (cI, 60, .inl c_this_buffer))] sz) := by
  refine rk_meti h (fun x : Int32 × (Nat → Int32) => x.1) (fun x => [(a_this_buffer, .inl (cI, 60, .inl x.2))]) (by decide) (Nat.le_of_ble_eq_true rfl) ?_
  intro p e s m args below meth c A ls Q hret hname hF hP hD hA hV hR0 hn hPL hnl hl h hS
  have hx := hF.1
  have hb := hF.2.1
  have hml := hF.2.2.1
  have hown : s.vm.findClass RX9 = some m.cls := hF.2.2.2.1
  have htc := hF.2.2.2.2
  have hP : va_P D vwCl [(a_this_buffer, .inl (cI, 60, .inl c_this_buffer))] s.heap := hP
  have hD : va_D A [(a_this_buffer, .inl (cI, 60, .inl c_this_buffer))] := hD
  have hR0 : va_P D vwCl [(a_this, .inr (8, [.ref a_this_buffer, .ref a_this_draft, .ref a_this_desk, .ref a_this_archive, .ref a_this_present]))] s.heap := hR0
  have hR := hR0
  have hl : lv_has ls 4 [(0, .ref a_this), (1, .int v_p1), (2, .int v_p2)] := hl
  unfold fX9_put at h
  refine lv_iload_n hx hb dX9_put_0 rfl (lv_at hl 1 rfl) ?_
  refine lv_if_lt (tgt := 24) hx hb dX9_put_1 (by decide) (fun hc1 => ?_) (fun hc1 => ?_)
  · have h := rk_if hc1 h
    refine lv_sipush (v := (-1001)) hx hb dX9_put_24 (by decide) ?_
    exact hret ((-1001 : Int32), c_this_buffer) _ _ _ _ h dX9_put_27 hP hD hS
  · have h := rk_nif hc1 h
    refine lv_iload_n hx hb dX9_put_4 rfl (lv_at hl 1 rfl) ?_
    refine lv_bipush (v := 60) hx hb dX9_put_5 (by decide) ?_
    refine lv_icmp_ge (tgt := 24) hx hb dX9_put_7 (by decide) (fun hc2 => ?_) (fun hc2 => ?_)
    · have h := rk_if hc2 h
      refine lv_sipush (v := (-1001)) hx hb dX9_put_24 (by decide) ?_
      exact hret ((-1001 : Int32), c_this_buffer) _ _ _ _ h dX9_put_27 hP hD hS
    · have h := rk_nif hc2 h
      refine lv_iload_n hx hb dX9_put_10 rfl (lv_at hl 2 rfl) ?_
      refine lv_sipush (v := (-1000)) hx hb dX9_put_11 (by decide) ?_
      refine lv_icmp_lt (tgt := 24) hx hb dX9_put_14 (by decide) (fun hc3 => ?_) (fun hc3 => ?_)
      · have h := rk_if hc3 h
        refine lv_sipush (v := (-1001)) hx hb dX9_put_24 (by decide) ?_
        exact hret ((-1001 : Int32), c_this_buffer) _ _ _ _ h dX9_put_27 hP hD hS
      · have h := rk_nif hc3 h
        refine lv_iload_n hx hb dX9_put_17 rfl (lv_at hl 2 rfl) ?_
        refine lv_sipush (v := 1000) hx hb dX9_put_18 (by decide) ?_
        refine lv_icmp_le (tgt := 28) hx hb dX9_put_21 (by decide) (fun hc4 => ?_) (fun hc4 => ?_)
        · have h := rk_if hc4 h
          refine lv_aload_n hx hb dX9_put_28 rfl (lv_at hl 0 rfl) ?_
          refine va_get (D := D) (ci := 8) (v := .ref a_this_buffer) (C := RX9) (T := TX9) (N := 5) hx hb htc inX9 hown hV.1 hR 0 rfl rfl 0 (by decide) (htc _ w_1_152) (fun _ h9 => h9) rfl dX9_put_29 ?_
          refine lv_iload_n hx hb dX9_put_32 rfl (lv_at hl 1 rfl) ?_
          obtain ⟨r_33, hc_33, h⟩ := rk_bd h
          refine rk_i (wr := [(a_this_buffer, .inl (cI, 60, .inl c_this_buffer))]) (va_runS (As := [.ref a_this_buffer, .int v_p1]) (rest := []) hF (mtX9_at l D cI cJ cO PL _ a_this_buffer 60 c_this_buffer v_p1 r_33 hc_33) (va_cwS 2 htc (rk_gVS w_2_61 w_1_51 w_1_1 w_1_52) rfl rfl rfl (by decide +kernel) ⟨(Nat.le_of_ble_eq_true rfl), (Nat.le_of_ble_eq_true rfl)⟩) (rk_preS hP hD hS hR hn hPL hnl hV [] [(true, 0)] rfl (by decide) rfl (by decide)) rfl rfl hl.1 rfl (lv_room (Nat.le_of_ble_eq_true rfl)) dX9_put_33 ⟨(Nat.le_of_ble_eq_true rfl), (Nat.le_of_ble_eq_true rfl)⟩) hP hD hS hA hR0 hn [] [0] rfl rfl (by decide) (by decide) (fun H locs hP hD hS hR => ?_)
          have hP : va_P D vwCl [(a_this_buffer, .inl (cI, 60, .inl c_this_buffer))] H := hP
          have hD : va_D A [(a_this_buffer, .inl (cI, 60, .inl c_this_buffer))] := hD
          refine lv_istore_n (lv' := [(3, .int r_33), (0, .ref a_this), (1, .int v_p1), (2, .int v_p2)]) hx hb dX9_put_36 rfl hl (by decide) rfl (fun ls hl => ?_)
          refine lv_aload_n hx hb dX9_put_37 rfl (lv_at hl 1 rfl) ?_
          refine va_get (D := D) (ci := 8) (v := .ref a_this_buffer) (C := RX9) (T := TX9) (N := 5) hx hb htc inX9 hown hV.1 hR 0 rfl rfl 0 (by decide) (htc _ w_1_152) (fun _ h9 => h9) rfl dX9_put_38 ?_
          refine lv_iload_n hx hb dX9_put_41 rfl (lv_at hl 2 rfl) ?_
          refine lv_iload_n hx hb dX9_put_42 rfl (lv_at hl 3 rfl) ?_
          obtain ⟨r_43, hc_43, h⟩ := rk_bd h
          refine rk_v (wr := []) (va_runS (As := [.ref a_this_buffer, .int v_p1, .int v_p2]) (rest := []) hF (mtX9_set l D cI cJ cO PL _ a_this_buffer 60 c_this_buffer v_p1 v_p2 r_43 hc_43) (va_cwS 3 htc (rk_gVS w_2_62 w_1_45 w_1_1 w_1_46) rfl rfl rfl (by decide +kernel) ⟨(Nat.le_of_ble_eq_true rfl), (Nat.le_of_ble_eq_true rfl)⟩) (rk_preS hP hD hS hR hn hPL hnl hV [0] [] rfl (by decide) rfl (by decide)) rfl rfl hl.1 rfl (lv_room (Nat.le_of_ble_eq_true rfl)) dX9_put_43 ⟨(Nat.le_of_ble_eq_true rfl), (Nat.le_of_ble_eq_true rfl)⟩) hP hD hS hA hR0 hn [0] [] rfl rfl (by decide) (by decide) (fun H locs hP hD hS hR => ?_)
          have hP : va_P D vwCl [(a_this_buffer, .inl (cI, 60, .inl r_43))] H := hP
          have hD : va_D A [(a_this_buffer, .inl (cI, 60, .inl r_43))] := hD
          refine lv_iload_n hx hb dX9_put_46 rfl (lv_at hl 0 rfl) ?_
          exact hret (r_33, r_43) _ _ _ _ h dX9_put_47 hP hD hS
        · have h := rk_nif hc4 h
          refine lv_sipush (v := (-1001)) hx hb dX9_put_24 (by decide) ?_
          exact hret ((-1001 : Int32), c_this_buffer) _ _ _ _ h dX9_put_27 hP hD hS
set_option maxHeartbeats 4000000 in
set_option maxRecDepth 100000 in
theorem mtX9_get (l : Launch) (D : va_G) (cI cJ cO : ClassId) (PL : va_W) (sz : Nat) (a_this : Nat) (a_this_buffer : Nat) (a_this_draft : Nat) (a_this_desk : Nat) (a_this_archive : Nat) (a_this_present : Nat) (c_this_buffer : Nat → Int32) (v_p1 : Int32) (r0 : Int32) (h : fX9_get c_this_buffer v_p1 = some r0) : Met l yX9_get (rk_w yX9_get cX9_get 2 (some .int)) rmX9_get (va_Pc [.ref a_this, .int v_p1] (rk_B D (rk_TY cI cJ cO) [] [(a_this, .inr (8, [.ref a_this_buffer, .ref a_this_draft, .ref a_this_desk, .ref a_this_archive, .ref a_this_present])), (a_this_buffer, .inl (cI, 60, .inl c_this_buffer))] PL sz)) (rk_Qi r0 D [] [] sz) 0 0 (va_A [] sz) := by
  refine rk_meti h (fun x : Int32 => x) (fun x => []) (by decide) (Nat.le_of_ble_eq_true rfl) ?_
  intro p e s m args below meth c A ls Q hret hname hF hP hD hA hV hR0 hn hPL hnl hl h hS
  have hx := hF.1
  have hb := hF.2.1
  have hml := hF.2.2.1
  have hown : s.vm.findClass RX9 = some m.cls := hF.2.2.2.1
  have htc := hF.2.2.2.2
  have hP : va_P D vwCl [] s.heap := hP
  have hD : va_D A [] := hD
  have hR0 : va_P D vwCl [(a_this, .inr (8, [.ref a_this_buffer, .ref a_this_draft, .ref a_this_desk, .ref a_this_archive, .ref a_this_present])), (a_this_buffer, .inl (cI, 60, .inl c_this_buffer))] s.heap := hR0
  have hR := hR0
  have hl : lv_has ls 2 [(0, .ref a_this), (1, .int v_p1)] := hl
  unfold fX9_get at h
  refine lv_iload_n hx hb dX9_get_0 rfl (lv_at hl 1 rfl) ?_
  have B10 : fX9_get_B10 = some r0 → ∀ (H : Heap) (locs : List Loc), va_P D vwCl [] H → va_D A [] → va_S A s.heap H locs → ∀ (ls : Array Slot), lv_has ls 2 [] → W p l e rmX9_get s m args below meth c H locs 0 0 Q (F0 m 10 ls []) := by
    intro  h H locs hP hD hS ls hl
    unfold fX9_get_B10 at h
    have hR := rk_keep hR0 hn hS
    refine lv_sipush (v := (-1001)) hx hb dX9_get_10 (by decide) ?_
    refine lv_goto (tgt := 24) hx hb dX9_get_13 (by decide) ?_
    exact hret (-1001 : Int32) _ _ _ _ h dX9_get_24 hP hD hS
  refine lv_if_lt (tgt := 10) hx hb dX9_get_1 (by decide) (fun hc1 => ?_) (fun hc1 => ?_)
  · have h := rk_if hc1 h
    exact B10  h _ _ hP hD hS _ (lv_sub hl [] rfl)
  · have h := rk_nif hc1 h
    refine lv_iload_n hx hb dX9_get_4 rfl (lv_at hl 1 rfl) ?_
    refine lv_bipush (v := 60) hx hb dX9_get_5 (by decide) ?_
    refine lv_icmp_lt (tgt := 16) hx hb dX9_get_7 (by decide) (fun hc2 => ?_) (fun hc2 => ?_)
    · have h := rk_if hc2 h
      refine lv_aload_n hx hb dX9_get_16 rfl (lv_at hl 0 rfl) ?_
      refine va_get (D := D) (ci := 8) (v := .ref a_this_buffer) (C := RX9) (T := TX9) (N := 5) hx hb htc inX9 hown hV.1 hR 0 rfl rfl 0 (by decide) (htc _ w_1_152) (fun _ h9 => h9) rfl dX9_get_17 ?_
      refine lv_iload_n hx hb dX9_get_20 rfl (lv_at hl 1 rfl) ?_
      obtain ⟨r_21, hc_21, h⟩ := rk_bd h
      refine rk_i (wr := []) (va_runS (As := [.ref a_this_buffer, .int v_p1]) (rest := []) hF (mtX9_at l D cI cJ cO PL _ a_this_buffer 60 c_this_buffer v_p1 r_21 hc_21) (va_cwS 2 htc (rk_gVS w_2_61 w_1_51 w_1_1 w_1_52) rfl rfl rfl (by decide +kernel) ⟨(Nat.le_of_ble_eq_true rfl), (Nat.le_of_ble_eq_true rfl)⟩) (rk_preS hP hD hS hR hn hPL hnl hV [] [(false, 1)] rfl (by decide) rfl (by decide)) rfl rfl hl.1 rfl (lv_room (Nat.le_of_ble_eq_true rfl)) dX9_get_21 ⟨(Nat.le_of_ble_eq_true rfl), (Nat.le_of_ble_eq_true rfl)⟩) hP hD hS hA hR0 hn [] [] rfl rfl (by decide) (by decide) (fun H locs hP hD hS hR => ?_)
      have hP : va_P D vwCl [] H := hP
      have hD : va_D A [] := hD
      exact hret r_21 _ _ _ _ h dX9_get_24 hP hD hS
    · have h := rk_nif hc2 h
      exact B10  h _ _ hP hD hS _ (lv_sub hl [] rfl)
set_option maxHeartbeats 4000000 in
set_option maxRecDepth 100000 in
theorem vr_accepts {p : Program} {l : Launch} {e : Env} {R : Room} {s : State} {m : MethodId} {args : Array Value} {below : List Frame} {meth : Method} {c : Code} {H : Heap} {locs : List Loc} {cells slots : Nat} {cc : ByteArray} {nL : Nat} {own : String} {index : Nat} {g : JFrame} {As rest : List Value} (hF : CallFix p m c cc nL s args rk_c own) (htc : ∀ w ∈ rk_c, w.before args s = true) {D : va_G} {cI cJ cO : ClassId} (hV : rk_V D (rk_TY cI cJ cO) s) (hlk : Cond.methodLink own index ⟨"EnumerativeCoder$Family", "accepts", "([ILEnumerativeCoder$Desk;)Z"⟩ ∈ rk_c) (hu : () = ()) (PL : va_W) (a_this : Nat) (F_this : Fm) (a_p1 : Nat) (c_p1 : Nat → Int32) (a_p2 : Nat) (a_p2_binomials : Nat) (a_p2_partitionCounts : Nat) (a_p2_treeCounts : Nat) (a_p2_sizes : Nat) (a_p2_starts : Nat) (a_p2_ranks : Nat) (a_p2_letters : Nat) (c_p2_letters : Nat → Int32) (c_p2_sizes : Nat → Int32) (r0 : Int32 × (Nat → Int32) × (Nat → Int32)) (h : v_accepts F_this c_p1 c_p2_letters c_p2_sizes = some r0) (hcell : va_at D vwCl (a_this, rk_fam F_this) H) (hp : PreS s H (va_Pc (.ref a_this :: As) (rk_B D (rk_TY cI cJ cO) [(a_p2_letters, .inl (cI, 4, .inl c_p2_letters)), (a_p2_sizes, .inl (cI, 60, .inl c_p2_sizes))] [(a_this, rk_fam F_this), (a_p1, .inl (cI, 60, .inl c_p1)), (a_p2, .inr (2, [.ref a_p2_binomials, .ref a_p2_partitionCounts, .ref a_p2_treeCounts, .ref a_p2_sizes, .ref a_p2_starts, .ref a_p2_ranks, .ref a_p2_letters]))] PL H.size)) (.ref a_this :: As)) (hg : g.method = m) (hn : As.length = 2) (hsize : g.locals.size = nL) (hstack : g.stack = As.reverse ++ .ref a_this :: rest) (hW : 2 * g.monitorRoom + (rest.map fun v => v.category).sum ≤ 8) (hdg : decode cc g.pc = .ok (.invokevirtual index, 3)) (hf : cells + 0 ≤ R.cells ∧ slots + 0 ≤ R.slots) (hfr : 4 ≤ R.frames) (hlo : 92 ≤ R.locals) (hAs : As = [.ref a_p1, .ref a_p2]) : va_Run p l e R s m args below meth c H locs cells slots 0 0 g rest (rk_Qi r0.1 D [(a_p2_letters, .inl (cI, 4, .inl r0.2.1)), (a_p2_sizes, .inl (cI, 60, .inl r0.2.2))] [(a_p2_letters, .inl (cI, 4, .inl c_p2_letters)), (a_p2_sizes, .inl (cI, 60, .inl c_p2_sizes))] H.size (Value.ref a_this :: As).toArray) (va_A [(a_p2_letters, .inl (cI, 4, .inl c_p2_letters)), (a_p2_sizes, .inl (cI, 60, .inl c_p2_sizes))] H.size) := by
  subst hAs
  unfold v_accepts at h
  by_cases k0 : F_this.1 = 0
  · have h := rk_if k0 h
    have hfam := rk_fam_0 k0
    rw [hfam] at hp hcell
    exact va_runU (C := RX6) (owner := "EnumerativeCoder$Family") hF (mtX6_accepts l D cI cJ cO PL H.size a_this F_this.2.1 F_this.2.2.1 F_this.2.2.2.1 F_this.2.2.2.2.1 F_this.2.2.2.2.2.1 a_p1 c_p1 a_p2 a_p2_binomials a_p2_partitionCounts a_p2_treeCounts a_p2_sizes a_p2_starts a_p2_ranks a_p2_letters c_p2_letters c_p2_sizes r0 h) (va_cwA 2 htc (rk_gU hlk w_2_225 w_2_236 w_2_237 w_1_6 w_2_238) rfl rfl rfl (hV.2.1 _ nw_2_224) (by decide +kernel) ⟨Nat.le_trans (Nat.le_of_ble_eq_true rfl) hfr, Nat.le_trans (Nat.le_of_ble_eq_true rfl) hlo⟩) (rk_preV (va_recv hV.1 (rk_oneP hcell) (ci := 5) (q0 := 0) rfl rfl) hp) hg hn hsize hstack hW hdg hf
  have h := rk_nif k0 h
  by_cases k1 : F_this.1 = 1
  · have h := rk_if k1 h
    have hfam := rk_fam_1 k1
    rw [hfam] at hp hcell
    exact va_runU (C := RX5) (owner := "EnumerativeCoder$Family") hF (mtX5_accepts l D cI cJ cO PL H.size a_this F_this.2.1 F_this.2.2.1 F_this.2.2.2.1 F_this.2.2.2.2.1 a_p1 c_p1 a_p2 a_p2_binomials a_p2_partitionCounts a_p2_treeCounts a_p2_sizes a_p2_starts a_p2_ranks a_p2_letters c_p2_letters c_p2_sizes r0 h) (va_cwA 2 htc (rk_gU hlk w_2_225 w_2_233 w_2_234 w_1_9 w_2_235) rfl rfl rfl (hV.2.1 _ nw_2_224) (by decide +kernel) ⟨Nat.le_trans (Nat.le_of_ble_eq_true rfl) hfr, Nat.le_trans (Nat.le_of_ble_eq_true rfl) hlo⟩) (rk_preV (va_recv hV.1 (rk_oneP hcell) (ci := 4) (q0 := 0) rfl rfl) hp) hg hn hsize hstack hW hdg hf
  have h := rk_nif k1 h
  by_cases k2 : F_this.1 = 2
  · have h := rk_if k2 h
    have hfam := rk_fam_2 k2
    rw [hfam] at hp hcell
    exact va_runU (C := RX8) (owner := "EnumerativeCoder$Family") hF (mtX8_accepts l D cI cJ cO PL H.size a_this F_this.2.1 F_this.2.2.1 F_this.2.2.2.1 F_this.2.2.2.2.1 F_this.2.2.2.2.2.1 a_p1 c_p1 a_p2 a_p2_binomials a_p2_partitionCounts a_p2_treeCounts a_p2_sizes a_p2_starts a_p2_ranks a_p2_letters c_p2_letters c_p2_sizes r0 h) (va_cwA 2 htc (rk_gU hlk w_2_225 w_3_6 w_3_7 w_1_11 w_3_8) rfl rfl rfl (hV.2.1 _ nw_2_224) (by decide +kernel) ⟨Nat.le_trans (Nat.le_of_ble_eq_true rfl) hfr, Nat.le_trans (Nat.le_of_ble_eq_true rfl) hlo⟩) (rk_preV (va_recv hV.1 (rk_oneP hcell) (ci := 7) (q0 := 0) rfl rfl) hp) hg hn hsize hstack hW hdg hf
  have h := rk_nif k2 h
  by_cases k3 : F_this.1 = 3
  · have h := rk_if k3 h
    have hfam := rk_fam_3 k3
    rw [hfam] at hp hcell
    exact va_runU (C := RX7) (owner := "EnumerativeCoder$Family") hF (mtX7_accepts l D cI cJ cO PL H.size a_this F_this.2.1 F_this.2.2.1 F_this.2.2.2.1 a_p1 c_p1 a_p2 a_p2_binomials a_p2_partitionCounts a_p2_treeCounts a_p2_sizes a_p2_starts a_p2_ranks a_p2_letters c_p2_letters c_p2_sizes r0 h) (va_cwA 2 htc (rk_gU hlk w_2_225 w_3_0 w_3_1 w_1_10 w_3_2) rfl rfl rfl (hV.2.1 _ nw_2_224) (by decide +kernel) ⟨Nat.le_trans (Nat.le_of_ble_eq_true rfl) hfr, Nat.le_trans (Nat.le_of_ble_eq_true rfl) hlo⟩) (rk_preV (va_recv hV.1 (rk_oneP hcell) (ci := 6) (q0 := 0) rfl rfl) hp) hg hn hsize hstack hW hdg hf
  have h := rk_nif k3 h
  by_cases k4 : F_this.1 = 4
  · have h := rk_if k4 h
    have hfam := rk_fam_4 k4
    rw [hfam] at hp hcell
    exact va_runU (C := RX4) (owner := "EnumerativeCoder$Family") hF (mtX4_accepts l D cI cJ cO PL H.size a_this F_this.2.1 F_this.2.2.1 F_this.2.2.2.1 F_this.2.2.2.2.1 a_p1 c_p1 a_p2 a_p2_binomials a_p2_partitionCounts a_p2_treeCounts a_p2_sizes a_p2_starts a_p2_ranks a_p2_letters c_p2_letters c_p2_sizes r0 h) (va_cwA 2 htc (rk_gU hlk w_2_225 w_2_229 w_2_230 w_1_12 w_2_231) rfl rfl rfl (hV.2.1 _ nw_2_224) (by decide +kernel) ⟨Nat.le_trans (Nat.le_of_ble_eq_true rfl) hfr, Nat.le_trans (Nat.le_of_ble_eq_true rfl) hlo⟩) (rk_preV (va_recv hV.1 (rk_oneP hcell) (ci := 3) (q0 := 0) rfl rfl) hp) hg hn hsize hstack hW hdg hf
  have h := rk_nif k4 h
  have hfam := rk_fam_5 k0 k1 k2 k3 k4
  rw [hfam] at hp hcell
  exact va_runU (C := RX1) (owner := "EnumerativeCoder$Family") hF (mtX1_accepts l D cI cJ cO PL H.size a_this F_this.2.1 F_this.2.2.1 F_this.2.2.2.1 F_this.2.2.2.2.1 F_this.2.2.2.2.2.1 F_this.2.2.2.2.2.2.1 F_this.2.2.2.2.2.2.2 a_p1 c_p1 a_p2 a_p2_binomials a_p2_partitionCounts a_p2_treeCounts a_p2_sizes a_p2_starts a_p2_ranks a_p2_letters c_p2_letters c_p2_sizes r0 h) (va_cwA 2 htc (rk_gU hlk w_2_225 w_2_226 w_2_227 w_1_8 w_2_228) rfl rfl rfl (hV.2.1 _ nw_2_224) (by decide +kernel) ⟨Nat.le_trans (Nat.le_of_ble_eq_true rfl) hfr, Nat.le_trans (Nat.le_of_ble_eq_true rfl) hlo⟩) (rk_preV (va_recv hV.1 (rk_oneP hcell) (ci := 1) (q0 := 0) rfl rfl) hp) hg hn hsize hstack hW hdg hf
set_option maxHeartbeats 4000000 in
set_option maxRecDepth 100000 in
theorem mtX9_holdsObject (l : Launch) (D : va_G) (cI cJ cO : ClassId) (PL : va_W) (sz : Nat) (a_this : Nat) (a_this_buffer : Nat) (a_this_draft : Nat) (a_this_desk : Nat) (a_this_archive : Nat) (a_this_present : Nat) (c_this_buffer : Nat → Int32) (a_this_desk_binomials : Nat) (a_this_desk_partitionCounts : Nat) (a_this_desk_treeCounts : Nat) (a_this_desk_sizes : Nat) (a_this_desk_starts : Nat) (a_this_desk_ranks : Nat) (a_this_desk_letters : Nat) (F_this_present : Fm) (c_this_desk_letters : Nat → Int32) (c_this_desk_sizes : Nat → Int32) (r0 : Int32 × (Nat → Int32) × (Nat → Int32)) (h : fX9_holdsObject c_this_buffer F_this_present c_this_desk_letters c_this_desk_sizes = some r0) : Met l yX9_holdsObject (rk_w yX9_holdsObject cX9_holdsObject 1 (some .boolean)) rmX9_holdsObject (va_Pc [.ref a_this] (rk_B D (rk_TY cI cJ cO) [(a_this_desk_letters, .inl (cI, 4, .inl c_this_desk_letters)), (a_this_desk_sizes, .inl (cI, 60, .inl c_this_desk_sizes))] [(a_this, .inr (8, [.ref a_this_buffer, .ref a_this_draft, .ref a_this_desk, .ref a_this_archive, .ref a_this_present])), (a_this_buffer, .inl (cI, 60, .inl c_this_buffer)), (a_this_desk, .inr (2, [.ref a_this_desk_binomials, .ref a_this_desk_partitionCounts, .ref a_this_desk_treeCounts, .ref a_this_desk_sizes, .ref a_this_desk_starts, .ref a_this_desk_ranks, .ref a_this_desk_letters])), (a_this_present, rk_fam F_this_present)] PL sz)) (rk_Qi r0.1 D [(a_this_desk_letters, .inl (cI, 4, .inl r0.2.1)), (a_this_desk_sizes, .inl (cI, 60, .inl r0.2.2))] [(a_this_desk_letters, .inl (cI, 4, .inl c_this_desk_letters)), (a_this_desk_sizes, .inl (cI, 60, .inl c_this_desk_sizes))] sz) 0 0 (va_A [(a_this_desk_letters, .inl (cI, 4, .inl c_this_desk_letters)), (a_this_desk_sizes, .inl (cI, 60, .inl c_this_desk_sizes))] sz) := by
  refine rk_metz h (fun x : Int32 × (Nat → Int32) × (Nat → Int32) => x.1) (fun x => [(a_this_desk_letters, .inl (cI, 4, .inl x.2.1)), (a_this_desk_sizes, .inl (cI, 60, .inl x.2.2))]) (by decide) (Nat.le_of_ble_eq_true rfl) ?_
  intro p e s m args below meth c A ls Q hret hname hF hP hD hA hV hR0 hn hPL hnl hl h hS
  have hx := hF.1
  have hb := hF.2.1
  have hml := hF.2.2.1
  have hown : s.vm.findClass RX9 = some m.cls := hF.2.2.2.1
  have htc := hF.2.2.2.2
  have hP : va_P D vwCl [(a_this_desk_letters, .inl (cI, 4, .inl c_this_desk_letters)), (a_this_desk_sizes, .inl (cI, 60, .inl c_this_desk_sizes))] s.heap := hP
  have hD : va_D A [(a_this_desk_letters, .inl (cI, 4, .inl c_this_desk_letters)), (a_this_desk_sizes, .inl (cI, 60, .inl c_this_desk_sizes))] := hD
  have hR0 : va_P D vwCl [(a_this, .inr (8, [.ref a_this_buffer, .ref a_this_draft, .ref a_this_desk, .ref a_this_archive, .ref a_this_present])), (a_this_buffer, .inl (cI, 60, .inl c_this_buffer)), (a_this_desk, .inr (2, [.ref a_this_desk_binomials, .ref a_this_desk_partitionCounts, .ref a_this_desk_treeCounts, .ref a_this_desk_sizes, .ref a_this_desk_starts, .ref a_this_desk_ranks, .ref a_this_desk_letters])), (a_this_present, rk_fam F_this_present)] s.heap := hR0
  have hR := hR0
  have hl : lv_has ls 1 [(0, .ref a_this)] := hl
  unfold fX9_holdsObject at h
  refine lv_aload_n hx hb dX9_holdsObject_0 rfl (lv_at hl 0 rfl) ?_
  refine va_get (D := D) (ci := 8) (v := .ref a_this_present) (C := RX9) (T := TX9) (N := 5) hx hb htc inX9 hown hV.1 hR 0 rfl rfl 4 (by decide) (htc _ w_1_156) (fun _ h9 => h9) rfl dX9_holdsObject_1 ?_
  refine lv_aload_n hx hb dX9_holdsObject_4 rfl (lv_at hl 0 rfl) ?_
  refine va_get (D := D) (ci := 8) (v := .ref a_this_buffer) (C := RX9) (T := TX9) (N := 5) hx hb htc inX9 hown hV.1 hR 0 rfl rfl 0 (by decide) (htc _ w_1_152) (fun _ h9 => h9) rfl dX9_holdsObject_5 ?_
  refine lv_aload_n hx hb dX9_holdsObject_8 rfl (lv_at hl 0 rfl) ?_
  refine va_get (D := D) (ci := 8) (v := .ref a_this_desk) (C := RX9) (T := TX9) (N := 5) hx hb htc inX9 hown hV.1 hR 0 rfl rfl 2 (by decide) (htc _ w_1_154) (fun _ h9 => h9) rfl dX9_holdsObject_9 ?_
  obtain ⟨r_12, hc_12, h⟩ := rk_bd h
  refine rk_i (wr := []) (vr_accepts (As := [.ref a_this_buffer, .ref a_this_desk]) (rest := []) hF htc hV w_2_223 rfl PL a_this_present F_this_present a_this_buffer c_this_buffer a_this_desk a_this_desk_binomials a_this_desk_partitionCounts a_this_desk_treeCounts a_this_desk_sizes a_this_desk_starts a_this_desk_ranks a_this_desk_letters c_this_desk_letters c_this_desk_sizes r_12 hc_12 (hR 3 _ rfl) (rk_preS hP hD hS hR hn hPL hnl hV [0, 1] [(false, 3), (false, 1), (false, 2)] rfl (by decide) rfl (by decide)) rfl rfl hl.1 rfl (lv_room (Nat.le_of_ble_eq_true rfl)) dX9_holdsObject_12 ⟨(Nat.le_of_ble_eq_true rfl), (Nat.le_of_ble_eq_true rfl)⟩ (Nat.le_of_ble_eq_true rfl) (Nat.le_of_ble_eq_true rfl) rfl) hP hD hS hA hR0 hn [0, 1] [] rfl rfl (by decide) (by decide) (fun H locs hP hD hS hR => ?_)
  have hP : va_P D vwCl [(a_this_desk_letters, .inl (cI, 4, .inl r_12.2.1)), (a_this_desk_sizes, .inl (cI, 60, .inl r_12.2.2))] H := hP
  have hD : va_D A [(a_this_desk_letters, .inl (cI, 4, .inl r_12.2.1)), (a_this_desk_sizes, .inl (cI, 60, .inl r_12.2.2))] := hD
  obtain ⟨hz1, h⟩ := rk_gp h
  exact hret (r_12.1, r_12.2.1, r_12.2.2) _ _ _ _ h (rk_nz hz1) dX9_holdsObject_15 hP hD hS
set_option maxHeartbeats 4000000 in
set_option maxRecDepth 100000 in
theorem mtX9_isObject (l : Launch) (D : va_G) (cI cJ cO : ClassId) (PL : va_W) (sz : Nat) (a_this : Nat) (a_this_buffer : Nat) (a_this_draft : Nat) (a_this_desk : Nat) (a_this_archive : Nat) (a_this_present : Nat) (c_this_buffer : Nat → Int32) (a_this_desk_binomials : Nat) (a_this_desk_partitionCounts : Nat) (a_this_desk_treeCounts : Nat) (a_this_desk_sizes : Nat) (a_this_desk_starts : Nat) (a_this_desk_ranks : Nat) (a_this_desk_letters : Nat) (F_this_present : Fm) (c_this_desk_letters : Nat → Int32) (c_this_desk_sizes : Nat → Int32) (r0 : Int32 × (Nat → Int32) × (Nat → Int32)) (h : fX9_isObject c_this_buffer F_this_present c_this_desk_letters c_this_desk_sizes = some r0) : Met l yX9_isObject (rk_w yX9_isObject cX9_isObject 1 (some .int)) rmX9_isObject (va_Pc [.ref a_this] (rk_B D (rk_TY cI cJ cO) [(a_this_desk_letters, .inl (cI, 4, .inl c_this_desk_letters)), (a_this_desk_sizes, .inl (cI, 60, .inl c_this_desk_sizes))] [(a_this, .inr (8, [.ref a_this_buffer, .ref a_this_draft, .ref a_this_desk, .ref a_this_archive, .ref a_this_present])), (a_this_buffer, .inl (cI, 60, .inl c_this_buffer)), (a_this_desk, .inr (2, [.ref a_this_desk_binomials, .ref a_this_desk_partitionCounts, .ref a_this_desk_treeCounts, .ref a_this_desk_sizes, .ref a_this_desk_starts, .ref a_this_desk_ranks, .ref a_this_desk_letters])), (a_this_present, rk_fam F_this_present)] PL sz)) (rk_Qi r0.1 D [(a_this_desk_letters, .inl (cI, 4, .inl r0.2.1)), (a_this_desk_sizes, .inl (cI, 60, .inl r0.2.2))] [(a_this_desk_letters, .inl (cI, 4, .inl c_this_desk_letters)), (a_this_desk_sizes, .inl (cI, 60, .inl c_this_desk_sizes))] sz) 0 0 (va_A [(a_this_desk_letters, .inl (cI, 4, .inl c_this_desk_letters)), (a_this_desk_sizes, .inl (cI, 60, .inl c_this_desk_sizes))] sz) := by
  refine rk_meti h (fun x : Int32 × (Nat → Int32) × (Nat → Int32) => x.1) (fun x => [(a_this_desk_letters, .inl (cI, 4, .inl x.2.1)), (a_this_desk_sizes, .inl (cI, 60, .inl x.2.2))]) (by decide) (Nat.le_of_ble_eq_true rfl) ?_
  intro p e s m args below meth c A ls Q hret hname hF hP hD hA hV hR0 hn hPL hnl hl h hS
  have hx := hF.1
  have hb := hF.2.1
  have hml := hF.2.2.1
  have hown : s.vm.findClass RX9 = some m.cls := hF.2.2.2.1
  have htc := hF.2.2.2.2
  have hP : va_P D vwCl [(a_this_desk_letters, .inl (cI, 4, .inl c_this_desk_letters)), (a_this_desk_sizes, .inl (cI, 60, .inl c_this_desk_sizes))] s.heap := hP
  have hD : va_D A [(a_this_desk_letters, .inl (cI, 4, .inl c_this_desk_letters)), (a_this_desk_sizes, .inl (cI, 60, .inl c_this_desk_sizes))] := hD
  have hR0 : va_P D vwCl [(a_this, .inr (8, [.ref a_this_buffer, .ref a_this_draft, .ref a_this_desk, .ref a_this_archive, .ref a_this_present])), (a_this_buffer, .inl (cI, 60, .inl c_this_buffer)), (a_this_desk, .inr (2, [.ref a_this_desk_binomials, .ref a_this_desk_partitionCounts, .ref a_this_desk_treeCounts, .ref a_this_desk_sizes, .ref a_this_desk_starts, .ref a_this_desk_ranks, .ref a_this_desk_letters])), (a_this_present, rk_fam F_this_present)] s.heap := hR0
  have hR := hR0
  have hl : lv_has ls 1 [(0, .ref a_this)] := hl
  unfold fX9_isObject at h
  refine lv_aload_n hx hb dX9_isObject_0 rfl (lv_at hl 0 rfl) ?_
  obtain ⟨r_1, hc_1, h⟩ := rk_bd h
  refine rk_i (wr := []) (va_runV (C := RX9) (As := []) (rest := []) hF (mtX9_holdsObject l D cI cJ cO PL _ a_this a_this_buffer a_this_draft a_this_desk a_this_archive a_this_present c_this_buffer a_this_desk_binomials a_this_desk_partitionCounts a_this_desk_treeCounts a_this_desk_sizes a_this_desk_starts a_this_desk_ranks a_this_desk_letters F_this_present c_this_desk_letters c_this_desk_sizes r_1 hc_1) (cwV 0 htc (rk_gV w_2_219 w_2_221 ws_15 w_1_1 w_2_222) rfl rfl rfl (by decide +kernel) ⟨(Nat.le_of_ble_eq_true rfl), (Nat.le_of_ble_eq_true rfl)⟩) (rk_preV (va_recv hV.1 hR (ci := 8) (q0 := 0) rfl rfl) (rk_preS hP hD hS hR hn hPL hnl hV [0, 1] [(false, 0), (false, 1), (false, 2), (false, 3)] rfl (by decide) rfl (by decide))) rfl rfl hl.1 rfl (lv_room (Nat.le_of_ble_eq_true rfl)) dX9_isObject_1 ⟨(Nat.le_of_ble_eq_true rfl), (Nat.le_of_ble_eq_true rfl)⟩) hP hD hS hA hR0 hn [0, 1] [] rfl rfl (by decide) (by decide) (fun H locs hP hD hS hR => ?_)
  have hP : va_P D vwCl [(a_this_desk_letters, .inl (cI, 4, .inl r_1.2.1)), (a_this_desk_sizes, .inl (cI, 60, .inl r_1.2.2))] H := hP
  have hD : va_D A [(a_this_desk_letters, .inl (cI, 4, .inl r_1.2.1)), (a_this_desk_sizes, .inl (cI, 60, .inl r_1.2.2))] := hD
  refine lv_if_eq (tgt := 11) hx hb dX9_isObject_4 (by decide) (fun hc1 => ?_) (fun hc1 => ?_)
  · have h := rk_if hc1 h
    refine lv_iconst (v := 0) hx hb dX9_isObject_11 (by decide) ?_
    exact hret ((0 : Int32), r_1.2.1, r_1.2.2) _ _ _ _ h dX9_isObject_12 hP hD hS
  · have h := rk_nif hc1 h
    refine lv_iconst (v := 1) hx hb dX9_isObject_7 (by decide) ?_
    refine lv_goto (tgt := 12) hx hb dX9_isObject_8 (by decide) ?_
    exact hret ((1 : Int32), r_1.2.1, r_1.2.2) _ _ _ _ h dX9_isObject_12 hP hD hS
set_option maxHeartbeats 4000000 in
set_option maxRecDepth 100000 in
theorem vr_placeOf {p : Program} {l : Launch} {e : Env} {R : Room} {s : State} {m : MethodId} {args : Array Value} {below : List Frame} {meth : Method} {c : Code} {H : Heap} {locs : List Loc} {cells slots : Nat} {cc : ByteArray} {nL : Nat} {own : String} {index : Nat} {g : JFrame} {As rest : List Value} (hF : CallFix p m c cc nL s args rk_c own) (htc : ∀ w ∈ rk_c, w.before args s = true) {D : va_G} {cI cJ cO : ClassId} (hV : rk_V D (rk_TY cI cJ cO) s) (hlk : Cond.methodLink own index ⟨"EnumerativeCoder$Family", "placeOf", "([ILEnumerativeCoder$Desk;)J"⟩ ∈ rk_c) (hu : () = ()) (PL : va_W) (a_this : Nat) (F_this : Fm) (a_p1 : Nat) (c_p1 : Nat → Int32) (a_p2 : Nat) (a_p2_binomials : Nat) (a_p2_partitionCounts : Nat) (a_p2_treeCounts : Nat) (a_p2_sizes : Nat) (a_p2_starts : Nat) (a_p2_ranks : Nat) (a_p2_letters : Nat) (c_p2_letters : Nat → Int32) (c_p2_ranks : Nat → Int64) (c_p2_sizes : Nat → Int32) (c_p2_binomials : Nat → Int64) (c_p2_partitionCounts : Nat → Int32) (c_p2_treeCounts : Nat → Int64) (r0 : Int64 × (Nat → Int32) × (Nat → Int64) × (Nat → Int32)) (h : v_placeOf F_this c_p1 c_p2_letters c_p2_ranks c_p2_sizes c_p2_binomials c_p2_partitionCounts c_p2_treeCounts = some r0) (hcell : va_at D vwCl (a_this, rk_fam F_this) H) (hp : PreS s H (va_Pc (.ref a_this :: As) (rk_B D (rk_TY cI cJ cO) [(a_p2_letters, .inl (cI, 4, .inl c_p2_letters)), (a_p2_ranks, .inl (cJ, 60, .inr (.inl c_p2_ranks))), (a_p2_sizes, .inl (cI, 60, .inl c_p2_sizes))] [(a_this, rk_fam F_this), (a_p1, .inl (cI, 60, .inl c_p1)), (a_p2, .inr (2, [.ref a_p2_binomials, .ref a_p2_partitionCounts, .ref a_p2_treeCounts, .ref a_p2_sizes, .ref a_p2_starts, .ref a_p2_ranks, .ref a_p2_letters])), (a_p2_binomials, .inl (cJ, 1891, .inr (.inl c_p2_binomials))), (a_p2_partitionCounts, .inl (cI, 1891, .inl c_p2_partitionCounts)), (a_p2_treeCounts, .inl (cJ, 31, .inr (.inl c_p2_treeCounts)))] PL H.size)) (.ref a_this :: As)) (hg : g.method = m) (hn : As.length = 2) (hsize : g.locals.size = nL) (hstack : g.stack = As.reverse ++ .ref a_this :: rest) (hW : 2 * g.monitorRoom + (rest.map fun v => v.category).sum ≤ 8) (hdg : decode cc g.pc = .ok (.invokevirtual index, 3)) (hf : cells + 0 ≤ R.cells ∧ slots + 0 ≤ R.slots) (hfr : 5 ≤ R.frames) (hlo : 125 ≤ R.locals) (hAs : As = [.ref a_p1, .ref a_p2]) : va_Run p l e R s m args below meth c H locs cells slots 0 0 g rest (rk_Ql r0.1 D [(a_p2_letters, .inl (cI, 4, .inl r0.2.1)), (a_p2_ranks, .inl (cJ, 60, .inr (.inl r0.2.2.1))), (a_p2_sizes, .inl (cI, 60, .inl r0.2.2.2))] [(a_p2_letters, .inl (cI, 4, .inl c_p2_letters)), (a_p2_ranks, .inl (cJ, 60, .inr (.inl c_p2_ranks))), (a_p2_sizes, .inl (cI, 60, .inl c_p2_sizes))] H.size (Value.ref a_this :: As).toArray) (va_A [(a_p2_letters, .inl (cI, 4, .inl c_p2_letters)), (a_p2_ranks, .inl (cJ, 60, .inr (.inl c_p2_ranks))), (a_p2_sizes, .inl (cI, 60, .inl c_p2_sizes))] H.size) := by
  subst hAs
  unfold v_placeOf at h
  by_cases k0 : F_this.1 = 0
  · have h := rk_if k0 h
    have hfam := rk_fam_0 k0
    rw [hfam] at hp hcell
    exact va_runU (C := RX6) (owner := "EnumerativeCoder$Family") hF (mtX6_placeOf l D cI cJ cO PL H.size a_this F_this.2.1 F_this.2.2.1 F_this.2.2.2.1 F_this.2.2.2.2.1 F_this.2.2.2.2.2.1 a_p1 c_p1 a_p2 a_p2_binomials a_p2_partitionCounts a_p2_treeCounts a_p2_sizes a_p2_starts a_p2_ranks a_p2_letters c_p2_letters c_p2_ranks c_p2_sizes c_p2_binomials c_p2_partitionCounts c_p2_treeCounts r0 h) (va_cwA 2 htc (rk_gU hlk w_3_16 w_3_38 w_3_39 w_1_6 w_3_40) rfl rfl rfl (hV.2.1 _ nw_3_15) (by decide +kernel) ⟨Nat.le_trans (Nat.le_of_ble_eq_true rfl) hfr, Nat.le_trans (Nat.le_of_ble_eq_true rfl) hlo⟩) (rk_preV (va_recv hV.1 (rk_oneP hcell) (ci := 5) (q0 := 0) rfl rfl) hp) hg hn hsize hstack hW hdg hf
  have h := rk_nif k0 h
  by_cases k1 : F_this.1 = 1
  · have h := rk_if k1 h
    have hfam := rk_fam_1 k1
    rw [hfam] at hp hcell
    exact va_runU (C := RX5) (owner := "EnumerativeCoder$Family") hF (mtX5_placeOf l D cI cJ cO PL H.size a_this F_this.2.1 F_this.2.2.1 F_this.2.2.2.1 F_this.2.2.2.2.1 a_p1 c_p1 a_p2 a_p2_binomials a_p2_partitionCounts a_p2_treeCounts a_p2_sizes a_p2_starts a_p2_ranks a_p2_letters c_p2_letters c_p2_ranks c_p2_sizes c_p2_binomials c_p2_partitionCounts c_p2_treeCounts r0 h) (va_cwA 2 htc (rk_gU hlk w_3_16 w_3_23 w_3_24 w_1_9 w_3_25) rfl rfl rfl (hV.2.1 _ nw_3_15) (by decide +kernel) ⟨Nat.le_trans (Nat.le_of_ble_eq_true rfl) hfr, Nat.le_trans (Nat.le_of_ble_eq_true rfl) hlo⟩) (rk_preV (va_recv hV.1 (rk_oneP hcell) (ci := 4) (q0 := 0) rfl rfl) hp) hg hn hsize hstack hW hdg hf
  have h := rk_nif k1 h
  by_cases k2 : F_this.1 = 2
  · have h := rk_if k2 h
    have hfam := rk_fam_2 k2
    rw [hfam] at hp hcell
    exact va_runU (C := RX8) (owner := "EnumerativeCoder$Family") hF (mtX8_placeOf l D cI cJ cO PL H.size a_this F_this.2.1 F_this.2.2.1 F_this.2.2.2.1 F_this.2.2.2.2.1 F_this.2.2.2.2.2.1 a_p1 c_p1 a_p2 a_p2_binomials a_p2_partitionCounts a_p2_treeCounts a_p2_sizes a_p2_starts a_p2_ranks a_p2_letters c_p2_letters c_p2_ranks c_p2_sizes c_p2_binomials c_p2_partitionCounts c_p2_treeCounts r0 h) (va_cwA 2 htc (rk_gU hlk w_3_16 w_3_48 w_3_49 w_1_11 w_3_50) rfl rfl rfl (hV.2.1 _ nw_3_15) (by decide +kernel) ⟨Nat.le_trans (Nat.le_of_ble_eq_true rfl) hfr, Nat.le_trans (Nat.le_of_ble_eq_true rfl) hlo⟩) (rk_preV (va_recv hV.1 (rk_oneP hcell) (ci := 7) (q0 := 0) rfl rfl) hp) hg hn hsize hstack hW hdg hf
  have h := rk_nif k2 h
  by_cases k3 : F_this.1 = 3
  · have h := rk_if k3 h
    have hfam := rk_fam_3 k3
    rw [hfam] at hp hcell
    exact va_runU (C := RX7) (owner := "EnumerativeCoder$Family") hF (mtX7_placeOf l D cI cJ cO PL H.size a_this F_this.2.1 F_this.2.2.1 F_this.2.2.2.1 a_p1 c_p1 a_p2 a_p2_binomials a_p2_partitionCounts a_p2_treeCounts a_p2_sizes a_p2_starts a_p2_ranks a_p2_letters c_p2_letters c_p2_ranks c_p2_sizes c_p2_binomials c_p2_partitionCounts c_p2_treeCounts r0 h) (va_cwA 2 htc (rk_gU hlk w_3_16 w_3_45 w_3_46 w_1_10 w_3_47) rfl rfl rfl (hV.2.1 _ nw_3_15) (by decide +kernel) ⟨Nat.le_trans (Nat.le_of_ble_eq_true rfl) hfr, Nat.le_trans (Nat.le_of_ble_eq_true rfl) hlo⟩) (rk_preV (va_recv hV.1 (rk_oneP hcell) (ci := 6) (q0 := 0) rfl rfl) hp) hg hn hsize hstack hW hdg hf
  have h := rk_nif k3 h
  by_cases k4 : F_this.1 = 4
  · have h := rk_if k4 h
    have hfam := rk_fam_4 k4
    rw [hfam] at hp hcell
    exact va_runU (C := RX4) (owner := "EnumerativeCoder$Family") hF (mtX4_placeOf l D cI cJ cO PL H.size a_this F_this.2.1 F_this.2.2.1 F_this.2.2.2.1 F_this.2.2.2.2.1 a_p1 c_p1 a_p2 a_p2_binomials a_p2_partitionCounts a_p2_treeCounts a_p2_sizes a_p2_starts a_p2_ranks a_p2_letters c_p2_letters c_p2_ranks c_p2_sizes c_p2_binomials c_p2_partitionCounts c_p2_treeCounts r0 h) (va_cwA 2 htc (rk_gU hlk w_3_16 w_3_20 w_3_21 w_1_12 w_3_22) rfl rfl rfl (hV.2.1 _ nw_3_15) (by decide +kernel) ⟨Nat.le_trans (Nat.le_of_ble_eq_true rfl) hfr, Nat.le_trans (Nat.le_of_ble_eq_true rfl) hlo⟩) (rk_preV (va_recv hV.1 (rk_oneP hcell) (ci := 3) (q0 := 0) rfl rfl) hp) hg hn hsize hstack hW hdg hf
  have h := rk_nif k4 h
  have hfam := rk_fam_5 k0 k1 k2 k3 k4
  rw [hfam] at hp hcell
  exact va_runU (C := RX1) (owner := "EnumerativeCoder$Family") hF (mtX1_placeOf l D cI cJ cO PL H.size a_this F_this.2.1 F_this.2.2.1 F_this.2.2.2.1 F_this.2.2.2.2.1 F_this.2.2.2.2.2.1 F_this.2.2.2.2.2.2.1 F_this.2.2.2.2.2.2.2 a_p1 c_p1 a_p2 a_p2_binomials a_p2_partitionCounts a_p2_treeCounts a_p2_sizes a_p2_starts a_p2_ranks a_p2_letters c_p2_letters c_p2_ranks c_p2_sizes c_p2_binomials c_p2_partitionCounts c_p2_treeCounts r0 h) (va_cwA 2 htc (rk_gU hlk w_3_16 w_3_17 w_3_18 w_1_8 w_3_19) rfl rfl rfl (hV.2.1 _ nw_3_15) (by decide +kernel) ⟨Nat.le_trans (Nat.le_of_ble_eq_true rfl) hfr, Nat.le_trans (Nat.le_of_ble_eq_true rfl) hlo⟩) (rk_preV (va_recv hV.1 (rk_oneP hcell) (ci := 1) (q0 := 0) rfl rfl) hp) hg hn hsize hstack hW hdg hf
set_option maxHeartbeats 4000000 in
set_option maxRecDepth 100000 in
theorem mtX9_rank (l : Launch) (D : va_G) (cI cJ cO : ClassId) (PL : va_W) (sz : Nat) (a_this : Nat) (a_this_buffer : Nat) (a_this_draft : Nat) (a_this_desk : Nat) (a_this_archive : Nat) (a_this_present : Nat) (c_this_buffer : Nat → Int32) (a_this_desk_binomials : Nat) (a_this_desk_partitionCounts : Nat) (a_this_desk_treeCounts : Nat) (a_this_desk_sizes : Nat) (a_this_desk_starts : Nat) (a_this_desk_ranks : Nat) (a_this_desk_letters : Nat) (F_this_present : Fm) (c_this_desk_letters : Nat → Int32) (c_this_desk_ranks : Nat → Int64) (c_this_desk_sizes : Nat → Int32) (c_this_desk_binomials : Nat → Int64) (c_this_desk_partitionCounts : Nat → Int32) (c_this_desk_treeCounts : Nat → Int64) (r0 : Int64 × (Nat → Int32) × (Nat → Int64) × (Nat → Int32)) (h : fX9_rank c_this_buffer F_this_present c_this_desk_letters c_this_desk_ranks c_this_desk_sizes c_this_desk_binomials c_this_desk_partitionCounts c_this_desk_treeCounts = some r0) : Met l yX9_rank (rk_w yX9_rank cX9_rank 1 (some .long)) rmX9_rank (va_Pc [.ref a_this] (rk_B D (rk_TY cI cJ cO) [(a_this_desk_letters, .inl (cI, 4, .inl c_this_desk_letters)), (a_this_desk_ranks, .inl (cJ, 60, .inr (.inl c_this_desk_ranks))), (a_this_desk_sizes, .inl (cI, 60, .inl c_this_desk_sizes))] [(a_this, .inr (8, [.ref a_this_buffer, .ref a_this_draft, .ref a_this_desk, .ref a_this_archive, .ref a_this_present])), (a_this_buffer, .inl (cI, 60, .inl c_this_buffer)), (a_this_desk, .inr (2, [.ref a_this_desk_binomials, .ref a_this_desk_partitionCounts, .ref a_this_desk_treeCounts, .ref a_this_desk_sizes, .ref a_this_desk_starts, .ref a_this_desk_ranks, .ref a_this_desk_letters])), (a_this_desk_binomials, .inl (cJ, 1891, .inr (.inl c_this_desk_binomials))), (a_this_desk_partitionCounts, .inl (cI, 1891, .inl c_this_desk_partitionCounts)), (a_this_desk_treeCounts, .inl (cJ, 31, .inr (.inl c_this_desk_treeCounts))), (a_this_present, rk_fam F_this_present)] PL sz)) (rk_Ql r0.1 D [(a_this_desk_letters, .inl (cI, 4, .inl r0.2.1)), (a_this_desk_ranks, .inl (cJ, 60, .inr (.inl r0.2.2.1))), (a_this_desk_sizes, .inl (cI, 60, .inl r0.2.2.2))] [(a_this_desk_letters, .inl (cI, 4, .inl c_this_desk_letters)), (a_this_desk_ranks, .inl (cJ, 60, .inr (.inl c_this_desk_ranks))), (a_this_desk_sizes, .inl (cI, 60, .inl c_this_desk_sizes))] sz) 0 0 (va_A [(a_this_desk_letters, .inl (cI, 4, .inl c_this_desk_letters)), (a_this_desk_ranks, .inl (cJ, 60, .inr (.inl c_this_desk_ranks))), (a_this_desk_sizes, .inl (cI, 60, .inl c_this_desk_sizes))] sz) := by
  refine rk_metl h (fun x : Int64 × (Nat → Int32) × (Nat → Int64) × (Nat → Int32) => x.1) (fun x => [(a_this_desk_letters, .inl (cI, 4, .inl x.2.1)), (a_this_desk_ranks, .inl (cJ, 60, .inr (.inl x.2.2.1))), (a_this_desk_sizes, .inl (cI, 60, .inl x.2.2.2))]) (by decide) (Nat.le_of_ble_eq_true rfl) ?_
  intro p e s m args below meth c A ls Q hret hname hF hP hD hA hV hR0 hn hPL hnl hl h hS
  have hx := hF.1
  have hb := hF.2.1
  have hml := hF.2.2.1
  have hown : s.vm.findClass RX9 = some m.cls := hF.2.2.2.1
  have htc := hF.2.2.2.2
  have hP : va_P D vwCl [(a_this_desk_letters, .inl (cI, 4, .inl c_this_desk_letters)), (a_this_desk_ranks, .inl (cJ, 60, .inr (.inl c_this_desk_ranks))), (a_this_desk_sizes, .inl (cI, 60, .inl c_this_desk_sizes))] s.heap := hP
  have hD : va_D A [(a_this_desk_letters, .inl (cI, 4, .inl c_this_desk_letters)), (a_this_desk_ranks, .inl (cJ, 60, .inr (.inl c_this_desk_ranks))), (a_this_desk_sizes, .inl (cI, 60, .inl c_this_desk_sizes))] := hD
  have hR0 : va_P D vwCl [(a_this, .inr (8, [.ref a_this_buffer, .ref a_this_draft, .ref a_this_desk, .ref a_this_archive, .ref a_this_present])), (a_this_buffer, .inl (cI, 60, .inl c_this_buffer)), (a_this_desk, .inr (2, [.ref a_this_desk_binomials, .ref a_this_desk_partitionCounts, .ref a_this_desk_treeCounts, .ref a_this_desk_sizes, .ref a_this_desk_starts, .ref a_this_desk_ranks, .ref a_this_desk_letters])), (a_this_desk_binomials, .inl (cJ, 1891, .inr (.inl c_this_desk_binomials))), (a_this_desk_partitionCounts, .inl (cI, 1891, .inl c_this_desk_partitionCounts)), (a_this_desk_treeCounts, .inl (cJ, 31, .inr (.inl c_this_desk_treeCounts))), (a_this_present, rk_fam F_this_present)] s.heap := hR0
  have hR := hR0
  have hl : lv_has ls 1 [(0, .ref a_this)] := hl
  unfold fX9_rank at h
  refine lv_aload_n hx hb dX9_rank_0 rfl (lv_at hl 0 rfl) ?_
  obtain ⟨r_1, hc_1, h⟩ := rk_bd h
  refine rk_i (wr := [(a_this_desk_ranks, .inl (cJ, 60, .inr (.inl c_this_desk_ranks)))]) (va_runV (C := RX9) (As := []) (rest := []) hF (mtX9_holdsObject l D cI cJ cO PL _ a_this a_this_buffer a_this_draft a_this_desk a_this_archive a_this_present c_this_buffer a_this_desk_binomials a_this_desk_partitionCounts a_this_desk_treeCounts a_this_desk_sizes a_this_desk_starts a_this_desk_ranks a_this_desk_letters F_this_present c_this_desk_letters c_this_desk_sizes r_1 hc_1) (cwV 0 htc (rk_gV w_2_219 w_2_221 ws_15 w_1_1 w_2_222) rfl rfl rfl (by decide +kernel) ⟨(Nat.le_of_ble_eq_true rfl), (Nat.le_of_ble_eq_true rfl)⟩) (rk_preV (va_recv hV.1 hR (ci := 8) (q0 := 0) rfl rfl) (rk_preS hP hD hS hR hn hPL hnl hV [0, 2] [(false, 0), (false, 1), (false, 2), (false, 6)] rfl (by decide) rfl (by decide))) rfl rfl hl.1 rfl (lv_room (Nat.le_of_ble_eq_true rfl)) dX9_rank_1 ⟨(Nat.le_of_ble_eq_true rfl), (Nat.le_of_ble_eq_true rfl)⟩) hP hD hS hA hR0 hn [0, 2] [1] rfl rfl (by decide) (by decide) (fun H locs hP hD hS hR => ?_)
  have hP : va_P D vwCl [(a_this_desk_ranks, .inl (cJ, 60, .inr (.inl c_this_desk_ranks))), (a_this_desk_letters, .inl (cI, 4, .inl r_1.2.1)), (a_this_desk_sizes, .inl (cI, 60, .inl r_1.2.2))] H := hP
  have hD : va_D A [(a_this_desk_ranks, .inl (cJ, 60, .inr (.inl c_this_desk_ranks))), (a_this_desk_letters, .inl (cI, 4, .inl r_1.2.1)), (a_this_desk_sizes, .inl (cI, 60, .inl r_1.2.2))] := hD
  refine lv_if_eq (tgt := 25) hx hb dX9_rank_4 (by decide) (fun hc1 => ?_) (fun hc1 => ?_)
  · have h := rk_if hc1 h
    refine lv_ldc2 (v := (-2 : Int64)) hx hb hown (htc _ w_3_51) dX9_rank_25 ?_
    exact hret ((-2 : Int64), r_1.2.1, c_this_desk_ranks, r_1.2.2) _ _ _ _ h dX9_rank_28 (hP.sub [1, 0, 2] rfl) (hD.sub [1, 0, 2] (by decide) rfl) hS
  · have h := rk_nif hc1 h
    refine lv_aload_n hx hb dX9_rank_7 rfl (lv_at hl 0 rfl) ?_
    refine va_get (D := D) (ci := 8) (v := .ref a_this_present) (C := RX9) (T := TX9) (N := 5) hx hb htc inX9 hown hV.1 hR 0 rfl rfl 4 (by decide) (htc _ w_1_156) (fun _ h9 => h9) rfl dX9_rank_8 ?_
    refine lv_aload_n hx hb dX9_rank_11 rfl (lv_at hl 0 rfl) ?_
    refine va_get (D := D) (ci := 8) (v := .ref a_this_buffer) (C := RX9) (T := TX9) (N := 5) hx hb htc inX9 hown hV.1 hR 0 rfl rfl 0 (by decide) (htc _ w_1_152) (fun _ h9 => h9) rfl dX9_rank_12 ?_
    refine lv_aload_n hx hb dX9_rank_15 rfl (lv_at hl 0 rfl) ?_
    refine va_get (D := D) (ci := 8) (v := .ref a_this_desk) (C := RX9) (T := TX9) (N := 5) hx hb htc inX9 hown hV.1 hR 0 rfl rfl 2 (by decide) (htc _ w_1_154) (fun _ h9 => h9) rfl dX9_rank_16 ?_
    obtain ⟨r_19, hc_19, h⟩ := rk_bd h
    refine rk_l (wr := []) (vr_placeOf (As := [.ref a_this_buffer, .ref a_this_desk]) (rest := []) hF htc hV w_3_14 rfl PL a_this_present F_this_present a_this_buffer c_this_buffer a_this_desk a_this_desk_binomials a_this_desk_partitionCounts a_this_desk_treeCounts a_this_desk_sizes a_this_desk_starts a_this_desk_ranks a_this_desk_letters r_1.2.1 c_this_desk_ranks r_1.2.2 c_this_desk_binomials c_this_desk_partitionCounts c_this_desk_treeCounts r_19 hc_19 (hR 6 _ rfl) (rk_preS hP hD hS hR hn hPL hnl hV [1, 0, 2] [(false, 6), (false, 1), (false, 2), (false, 3), (false, 4), (false, 5)] rfl (by decide) rfl (by decide)) rfl rfl hl.1 rfl (lv_room (Nat.le_of_ble_eq_true rfl)) dX9_rank_19 ⟨(Nat.le_of_ble_eq_true rfl), (Nat.le_of_ble_eq_true rfl)⟩ (Nat.le_of_ble_eq_true rfl) (Nat.le_of_ble_eq_true rfl) rfl) hP hD hS hA hR0 hn [1, 0, 2] [] rfl rfl (by decide) (by decide) (fun H locs hP hD hS hR => ?_)
    have hP : va_P D vwCl [(a_this_desk_letters, .inl (cI, 4, .inl r_19.2.1)), (a_this_desk_ranks, .inl (cJ, 60, .inr (.inl r_19.2.2.1))), (a_this_desk_sizes, .inl (cI, 60, .inl r_19.2.2.2))] H := hP
    have hD : va_D A [(a_this_desk_letters, .inl (cI, 4, .inl r_19.2.1)), (a_this_desk_ranks, .inl (cJ, 60, .inr (.inl r_19.2.2.1))), (a_this_desk_sizes, .inl (cI, 60, .inl r_19.2.2.2))] := hD
    refine lv_goto (tgt := 28) hx hb dX9_rank_22 (by decide) ?_
    exact hret (r_19.1, r_19.2.1, r_19.2.2.1, r_19.2.2.2) _ _ _ _ h dX9_rank_28 hP hD hS
set_option maxHeartbeats 4000000 in
set_option maxRecDepth 100000 in
theorem mtX9_layDown (l : Launch) (D : va_G) (cI cJ cO : ClassId) (PL : va_W) (sz : Nat) (a_this : Nat) (a_this_buffer : Nat) (a_this_draft : Nat) (a_this_desk : Nat) (a_this_archive : Nat) (a_this_present : Nat) (c_this_buffer : Nat → Int32) (c_this_draft : Nat → Int32) (a_this_desk_binomials : Nat) (a_this_desk_partitionCounts : Nat) (a_this_desk_treeCounts : Nat) (a_this_desk_sizes : Nat) (a_this_desk_starts : Nat) (a_this_desk_ranks : Nat) (a_this_desk_letters : Nat) (F_this_present : Fm) (c_this_desk_letters : Nat → Int32) (c_this_desk_ranks : Nat → Int64) (c_this_desk_sizes : Nat → Int32) (c_this_desk_binomials : Nat → Int64) (c_this_desk_partitionCounts : Nat → Int32) (c_this_desk_treeCounts : Nat → Int64) (v_p1 : Int64) (r0 : Int32 × (Nat → Int32) × (Nat → Int32) × (Nat → Int64) × (Nat → Int32) × (Nat → Int32)) (h : fX9_layDown c_this_buffer c_this_draft F_this_present c_this_desk_letters c_this_desk_ranks c_this_desk_sizes c_this_desk_binomials c_this_desk_partitionCounts c_this_desk_treeCounts v_p1 = some r0) : Met l yX9_layDown (rk_w yX9_layDown cX9_layDown 3 (some .boolean)) rmX9_layDown (va_Pc [.ref a_this, .long v_p1] (rk_B D (rk_TY cI cJ cO) [(a_this_buffer, .inl (cI, 60, .inl c_this_buffer)), (a_this_desk_letters, .inl (cI, 4, .inl c_this_desk_letters)), (a_this_desk_ranks, .inl (cJ, 60, .inr (.inl c_this_desk_ranks))), (a_this_desk_sizes, .inl (cI, 60, .inl c_this_desk_sizes)), (a_this_draft, .inl (cI, 60, .inl c_this_draft))] [(a_this, .inr (8, [.ref a_this_buffer, .ref a_this_draft, .ref a_this_desk, .ref a_this_archive, .ref a_this_present])), (a_this_desk, .inr (2, [.ref a_this_desk_binomials, .ref a_this_desk_partitionCounts, .ref a_this_desk_treeCounts, .ref a_this_desk_sizes, .ref a_this_desk_starts, .ref a_this_desk_ranks, .ref a_this_desk_letters])), (a_this_desk_binomials, .inl (cJ, 1891, .inr (.inl c_this_desk_binomials))), (a_this_desk_partitionCounts, .inl (cI, 1891, .inl c_this_desk_partitionCounts)), (a_this_desk_treeCounts, .inl (cJ, 31, .inr (.inl c_this_desk_treeCounts))), (a_this_present, rk_fam F_this_present)] PL sz)) (rk_Qi r0.1 D [(a_this_buffer, .inl (cI, 60, .inl r0.2.1)), (a_this_desk_letters, .inl (cI, 4, .inl r0.2.2.1)), (a_this_desk_ranks, .inl (cJ, 60, .inr (.inl r0.2.2.2.1))), (a_this_desk_sizes, .inl (cI, 60, .inl r0.2.2.2.2.1)), (a_this_draft, .inl (cI, 60, .inl r0.2.2.2.2.2))] [(a_this_buffer, .inl (cI, 60, .inl c_this_buffer)), (a_this_desk_letters, .inl (cI, 4, .inl c_this_desk_letters)), (a_this_desk_ranks, .inl (cJ, 60, .inr (.inl c_this_desk_ranks))), (a_this_desk_sizes, .inl (cI, 60, .inl c_this_desk_sizes)), (a_this_draft, .inl (cI, 60, .inl c_this_draft))] sz) 0 0 (va_A [(a_this_buffer, .inl (cI, 60, .inl c_this_buffer)), (a_this_desk_letters, .inl (cI, 4, .inl c_this_desk_letters)), (a_this_desk_ranks, .inl (cJ, 60, .inr (.inl c_this_desk_ranks))), (a_this_desk_sizes, .inl (cI, 60, .inl c_this_desk_sizes)), (a_this_draft, .inl (cI, 60, .inl c_this_draft))] sz) := by
  refine rk_metz h (fun x : Int32 × (Nat → Int32) × (Nat → Int32) × (Nat → Int64) × (Nat → Int32) × (Nat → Int32) => x.1) (fun x => [(a_this_buffer, .inl (cI, 60, .inl x.2.1)), (a_this_desk_letters, .inl (cI, 4, .inl x.2.2.1)), (a_this_desk_ranks, .inl (cJ, 60, .inr (.inl x.2.2.2.1))), (a_this_desk_sizes, .inl (cI, 60, .inl x.2.2.2.2.1)), (a_this_draft, .inl (cI, 60, .inl x.2.2.2.2.2))]) (by decide) (Nat.le_of_ble_eq_true rfl) ?_
  intro p e s m args below meth c A ls Q hret hname hF hP hD hA hV hR0 hn hPL hnl hl h hS
  have hx := hF.1
  have hb := hF.2.1
  have hml := hF.2.2.1
  have hown : s.vm.findClass RX9 = some m.cls := hF.2.2.2.1
  have htc := hF.2.2.2.2
  have hP : va_P D vwCl [(a_this_buffer, .inl (cI, 60, .inl c_this_buffer)), (a_this_desk_letters, .inl (cI, 4, .inl c_this_desk_letters)), (a_this_desk_ranks, .inl (cJ, 60, .inr (.inl c_this_desk_ranks))), (a_this_desk_sizes, .inl (cI, 60, .inl c_this_desk_sizes)), (a_this_draft, .inl (cI, 60, .inl c_this_draft))] s.heap := hP
  have hD : va_D A [(a_this_buffer, .inl (cI, 60, .inl c_this_buffer)), (a_this_desk_letters, .inl (cI, 4, .inl c_this_desk_letters)), (a_this_desk_ranks, .inl (cJ, 60, .inr (.inl c_this_desk_ranks))), (a_this_desk_sizes, .inl (cI, 60, .inl c_this_desk_sizes)), (a_this_draft, .inl (cI, 60, .inl c_this_draft))] := hD
  have hR0 : va_P D vwCl [(a_this, .inr (8, [.ref a_this_buffer, .ref a_this_draft, .ref a_this_desk, .ref a_this_archive, .ref a_this_present])), (a_this_desk, .inr (2, [.ref a_this_desk_binomials, .ref a_this_desk_partitionCounts, .ref a_this_desk_treeCounts, .ref a_this_desk_sizes, .ref a_this_desk_starts, .ref a_this_desk_ranks, .ref a_this_desk_letters])), (a_this_desk_binomials, .inl (cJ, 1891, .inr (.inl c_this_desk_binomials))), (a_this_desk_partitionCounts, .inl (cI, 1891, .inl c_this_desk_partitionCounts)), (a_this_desk_treeCounts, .inl (cJ, 31, .inr (.inl c_this_desk_treeCounts))), (a_this_present, rk_fam F_this_present)] s.heap := hR0
  have hR := hR0
  have hl : lv_has ls 3 [(0, .ref a_this), (1, .long v_p1)] := hl
  unfold fX9_layDown at h
  refine lv_aload_n hx hb dX9_layDown_0 rfl (lv_at hl 0 rfl) ?_
  refine va_get (D := D) (ci := 8) (v := .ref a_this_present) (C := RX9) (T := TX9) (N := 5) hx hb htc inX9 hown hV.1 hR 0 rfl rfl 4 (by decide) (htc _ w_1_156) (fun _ h9 => h9) rfl dX9_layDown_1 ?_
  refine lv_lload_n hx hb dX9_layDown_4 rfl (lv_at hl 1 rfl) ?_
  refine lv_aload_n hx hb dX9_layDown_5 rfl (lv_at hl 0 rfl) ?_
  refine va_get (D := D) (ci := 8) (v := .ref a_this_draft) (C := RX9) (T := TX9) (N := 5) hx hb htc inX9 hown hV.1 hR 0 rfl rfl 1 (by decide) (htc _ w_1_153) (fun _ h9 => h9) rfl dX9_layDown_6 ?_
  refine lv_aload_n hx hb dX9_layDown_9 rfl (lv_at hl 0 rfl) ?_
  refine va_get (D := D) (ci := 8) (v := .ref a_this_desk) (C := RX9) (T := TX9) (N := 5) hx hb htc inX9 hown hV.1 hR 0 rfl rfl 2 (by decide) (htc _ w_1_154) (fun _ h9 => h9) rfl dX9_layDown_10 ?_
  obtain ⟨r_13, hc_13, h⟩ := rk_bd h
  refine rk_v (wr := [(a_this_buffer, .inl (cI, 60, .inl c_this_buffer))]) (vr_lay (As := [.long v_p1, .ref a_this_draft, .ref a_this_desk]) (rest := []) hF htc hV w_1_180 rfl PL a_this_draft c_this_draft a_this_present F_this_present a_this_desk a_this_desk_binomials a_this_desk_partitionCounts a_this_desk_treeCounts a_this_desk_sizes a_this_desk_starts a_this_desk_ranks a_this_desk_letters c_this_desk_letters c_this_desk_ranks c_this_desk_sizes c_this_desk_binomials c_this_desk_partitionCounts c_this_desk_treeCounts v_p1 r_13 hc_13 (hR 5 _ rfl) (rk_preS hP hD hS hR hn hPL hnl hV [4, 1, 2, 3] [(false, 5), (false, 1), (false, 2), (false, 3), (false, 4)] rfl (by decide) rfl (by decide)) rfl rfl hl.1 rfl (lv_room (Nat.le_of_ble_eq_true rfl)) dX9_layDown_13 ⟨(Nat.le_of_ble_eq_true rfl), (Nat.le_of_ble_eq_true rfl)⟩ (Nat.le_of_ble_eq_true rfl) (Nat.le_of_ble_eq_true rfl) rfl) hP hD hS hA hR0 hn [4, 1, 2, 3] [0] rfl rfl (by decide) (by decide) (fun H locs hP hD hS hR => ?_)
  have hP : va_P D vwCl [(a_this_buffer, .inl (cI, 60, .inl c_this_buffer)), (a_this_draft, .inl (cI, 60, .inl r_13.1)), (a_this_desk_letters, .inl (cI, 4, .inl r_13.2.1)), (a_this_desk_ranks, .inl (cJ, 60, .inr (.inl r_13.2.2.1))), (a_this_desk_sizes, .inl (cI, 60, .inl r_13.2.2.2))] H := hP
  have hD : va_D A [(a_this_buffer, .inl (cI, 60, .inl c_this_buffer)), (a_this_draft, .inl (cI, 60, .inl r_13.1)), (a_this_desk_letters, .inl (cI, 4, .inl r_13.2.1)), (a_this_desk_ranks, .inl (cJ, 60, .inr (.inl r_13.2.2.1))), (a_this_desk_sizes, .inl (cI, 60, .inl r_13.2.2.2))] := hD
  refine lv_aload_n hx hb dX9_layDown_16 rfl (lv_at hl 0 rfl) ?_
  obtain ⟨r_17, hc_17, h⟩ := rk_bd h
  refine rk_i (wr := [(a_this_draft, .inl (cI, 60, .inl r_13.1)), (a_this_desk_letters, .inl (cI, 4, .inl r_13.2.1)), (a_this_desk_ranks, .inl (cJ, 60, .inr (.inl r_13.2.2.1))), (a_this_desk_sizes, .inl (cI, 60, .inl r_13.2.2.2))]) (va_runV (C := RX9) (As := []) (rest := []) hF (mtX9_takeDraft l D cI cJ cO PL _ a_this a_this_buffer a_this_draft a_this_desk a_this_archive a_this_present c_this_buffer r_13.1 F_this_present r_17 hc_17) (cwV 0 htc (rk_gV w_2_57 w_2_59 ws_12 w_1_1 w_2_60) rfl rfl rfl (by decide +kernel) ⟨(Nat.le_of_ble_eq_true rfl), (Nat.le_of_ble_eq_true rfl)⟩) (rk_preV (va_recv hV.1 hR (ci := 8) (q0 := 0) rfl rfl) (rk_preS hP hD hS hR hn hPL hnl hV [0] [(false, 0), (true, 1), (false, 5)] rfl (by decide) rfl (by decide))) rfl rfl hl.1 rfl (lv_room (Nat.le_of_ble_eq_true rfl)) dX9_layDown_17 ⟨(Nat.le_of_ble_eq_true rfl), (Nat.le_of_ble_eq_true rfl)⟩) hP hD hS hA hR0 hn [0] [1, 2, 3, 4] rfl rfl (by decide) (by decide) (fun H locs hP hD hS hR => ?_)
  have hP : va_P D vwCl [(a_this_draft, .inl (cI, 60, .inl r_13.1)), (a_this_desk_letters, .inl (cI, 4, .inl r_13.2.1)), (a_this_desk_ranks, .inl (cJ, 60, .inr (.inl r_13.2.2.1))), (a_this_desk_sizes, .inl (cI, 60, .inl r_13.2.2.2)), (a_this_buffer, .inl (cI, 60, .inl r_17.2))] H := hP
  have hD : va_D A [(a_this_draft, .inl (cI, 60, .inl r_13.1)), (a_this_desk_letters, .inl (cI, 4, .inl r_13.2.1)), (a_this_desk_ranks, .inl (cJ, 60, .inr (.inl r_13.2.2.1))), (a_this_desk_sizes, .inl (cI, 60, .inl r_13.2.2.2)), (a_this_buffer, .inl (cI, 60, .inl r_17.2))] := hD
  obtain ⟨hz1, h⟩ := rk_gp h
  exact hret (r_17.1, r_17.2, r_13.2.1, r_13.2.2.1, r_13.2.2.2, r_13.1) _ _ _ _ h (rk_nz hz1) dX9_layDown_20 (hP.sub [4, 1, 2, 3, 0] rfl) (hD.sub [4, 1, 2, 3, 0] (by decide) rfl) hS
set_option maxHeartbeats 4000000 in
set_option maxRecDepth 100000 in
theorem mtX9_unrank (l : Launch) (D : va_G) (cI cJ cO : ClassId) (PL : va_W) (sz : Nat) (a_this : Nat) (a_this_buffer : Nat) (a_this_draft : Nat) (a_this_desk : Nat) (a_this_archive : Nat) (a_this_present : Nat) (c_this_buffer : Nat → Int32) (c_this_draft : Nat → Int32) (a_this_desk_binomials : Nat) (a_this_desk_partitionCounts : Nat) (a_this_desk_treeCounts : Nat) (a_this_desk_sizes : Nat) (a_this_desk_starts : Nat) (a_this_desk_ranks : Nat) (a_this_desk_letters : Nat) (F_this_present : Fm) (c_this_desk_letters : Nat → Int32) (c_this_desk_ranks : Nat → Int64) (c_this_desk_sizes : Nat → Int32) (c_this_desk_binomials : Nat → Int64) (c_this_desk_partitionCounts : Nat → Int32) (c_this_desk_treeCounts : Nat → Int64) (v_p1 : Int64) (r0 : Int32 × (Nat → Int32) × (Nat → Int32) × (Nat → Int64) × (Nat → Int32) × (Nat → Int32)) (h : fX9_unrank c_this_buffer c_this_draft F_this_present c_this_desk_letters c_this_desk_ranks c_this_desk_sizes c_this_desk_binomials c_this_desk_partitionCounts c_this_desk_treeCounts v_p1 = some r0) : Met l yX9_unrank (rk_w yX9_unrank cX9_unrank 3 (some .int)) rmX9_unrank (va_Pc [.ref a_this, .long v_p1] (rk_B D (rk_TY cI cJ cO) [(a_this_buffer, .inl (cI, 60, .inl c_this_buffer)), (a_this_desk_letters, .inl (cI, 4, .inl c_this_desk_letters)), (a_this_desk_ranks, .inl (cJ, 60, .inr (.inl c_this_desk_ranks))), (a_this_desk_sizes, .inl (cI, 60, .inl c_this_desk_sizes)), (a_this_draft, .inl (cI, 60, .inl c_this_draft))] [(a_this, .inr (8, [.ref a_this_buffer, .ref a_this_draft, .ref a_this_desk, .ref a_this_archive, .ref a_this_present])), (a_this_desk, .inr (2, [.ref a_this_desk_binomials, .ref a_this_desk_partitionCounts, .ref a_this_desk_treeCounts, .ref a_this_desk_sizes, .ref a_this_desk_starts, .ref a_this_desk_ranks, .ref a_this_desk_letters])), (a_this_desk_binomials, .inl (cJ, 1891, .inr (.inl c_this_desk_binomials))), (a_this_desk_partitionCounts, .inl (cI, 1891, .inl c_this_desk_partitionCounts)), (a_this_desk_treeCounts, .inl (cJ, 31, .inr (.inl c_this_desk_treeCounts))), (a_this_present, rk_fam F_this_present)] PL sz)) (rk_Qi r0.1 D [(a_this_buffer, .inl (cI, 60, .inl r0.2.1)), (a_this_desk_letters, .inl (cI, 4, .inl r0.2.2.1)), (a_this_desk_ranks, .inl (cJ, 60, .inr (.inl r0.2.2.2.1))), (a_this_desk_sizes, .inl (cI, 60, .inl r0.2.2.2.2.1)), (a_this_draft, .inl (cI, 60, .inl r0.2.2.2.2.2))] [(a_this_buffer, .inl (cI, 60, .inl c_this_buffer)), (a_this_desk_letters, .inl (cI, 4, .inl c_this_desk_letters)), (a_this_desk_ranks, .inl (cJ, 60, .inr (.inl c_this_desk_ranks))), (a_this_desk_sizes, .inl (cI, 60, .inl c_this_desk_sizes)), (a_this_draft, .inl (cI, 60, .inl c_this_draft))] sz) 0 0 (va_A [(a_this_buffer, .inl (cI, 60, .inl c_this_buffer)), (a_this_desk_letters, .inl (cI, 4, .inl c_this_desk_letters)), (a_this_desk_ranks, .inl (cJ, 60, .inr (.inl c_this_desk_ranks))), (a_this_desk_sizes, .inl (cI, 60, .inl c_this_desk_sizes)), (a_this_draft, .inl (cI, 60, .inl c_this_draft))] sz) := by
  refine rk_meti h (fun x : Int32 × (Nat → Int32) × (Nat → Int32) × (Nat → Int64) × (Nat → Int32) × (Nat → Int32) => x.1) (fun x => [(a_this_buffer, .inl (cI, 60, .inl x.2.1)), (a_this_desk_letters, .inl (cI, 4, .inl x.2.2.1)), (a_this_desk_ranks, .inl (cJ, 60, .inr (.inl x.2.2.2.1))), (a_this_desk_sizes, .inl (cI, 60, .inl x.2.2.2.2.1)), (a_this_draft, .inl (cI, 60, .inl x.2.2.2.2.2))]) (by decide) (Nat.le_of_ble_eq_true rfl) ?_
  intro p e s m args below meth c A ls Q hret hname hF hP hD hA hV hR0 hn hPL hnl hl h hS
  have hx := hF.1
  have hb := hF.2.1
  have hml := hF.2.2.1
  have hown : s.vm.findClass RX9 = some m.cls := hF.2.2.2.1
  have htc := hF.2.2.2.2
  have hP : va_P D vwCl [(a_this_buffer, .inl (cI, 60, .inl c_this_buffer)), (a_this_desk_letters, .inl (cI, 4, .inl c_this_desk_letters)), (a_this_desk_ranks, .inl (cJ, 60, .inr (.inl c_this_desk_ranks))), (a_this_desk_sizes, .inl (cI, 60, .inl c_this_desk_sizes)), (a_this_draft, .inl (cI, 60, .inl c_this_draft))] s.heap := hP
  have hD : va_D A [(a_this_buffer, .inl (cI, 60, .inl c_this_buffer)), (a_this_desk_letters, .inl (cI, 4, .inl c_this_desk_letters)), (a_this_desk_ranks, .inl (cJ, 60, .inr (.inl c_this_desk_ranks))), (a_this_desk_sizes, .inl (cI, 60, .inl c_this_desk_sizes)), (a_this_draft, .inl (cI, 60, .inl c_this_draft))] := hD
  have hR0 : va_P D vwCl [(a_this, .inr (8, [.ref a_this_buffer, .ref a_this_draft, .ref a_this_desk, .ref a_this_archive, .ref a_this_present])), (a_this_desk, .inr (2, [.ref a_this_desk_binomials, .ref a_this_desk_partitionCounts, .ref a_this_desk_treeCounts, .ref a_this_desk_sizes, .ref a_this_desk_starts, .ref a_this_desk_ranks, .ref a_this_desk_letters])), (a_this_desk_binomials, .inl (cJ, 1891, .inr (.inl c_this_desk_binomials))), (a_this_desk_partitionCounts, .inl (cI, 1891, .inl c_this_desk_partitionCounts)), (a_this_desk_treeCounts, .inl (cJ, 31, .inr (.inl c_this_desk_treeCounts))), (a_this_present, rk_fam F_this_present)] s.heap := hR0
  have hR := hR0
  have hl : lv_has ls 3 [(0, .ref a_this), (1, .long v_p1)] := hl
  unfold fX9_unrank at h
  refine lv_lload_n hx hb dX9_unrank_0 rfl (lv_at hl 1 rfl) ?_
  refine lv_lconst (v := 0) hx hb dX9_unrank_1 (by decide) ?_
  refine rk_lclt (tgt := 18) hx hb dX9_unrank_2 dX9_unrank_3 (by decide) (fun hc1 => ?_) (fun hc1 => ?_)
  · have h := rk_if hc1 h
    refine lv_iconst (v := (-1)) hx hb dX9_unrank_18 (by decide) ?_
    exact hret ((-1 : Int32), c_this_buffer, c_this_desk_letters, c_this_desk_ranks, c_this_desk_sizes, c_this_draft) _ _ _ _ h dX9_unrank_19 hP hD hS
  · have h := rk_nif hc1 h
    refine lv_lload_n hx hb dX9_unrank_6 rfl (lv_at hl 1 rfl) ?_
    refine lv_aload_n hx hb dX9_unrank_7 rfl (lv_at hl 0 rfl) ?_
    refine va_get (D := D) (ci := 8) (v := .ref a_this_present) (C := RX9) (T := TX9) (N := 5) hx hb htc inX9 hown hV.1 hR 0 rfl rfl 4 (by decide) (htc _ w_1_156) (fun _ h9 => h9) rfl dX9_unrank_8 ?_
    refine rk_fget_size hx hb htc hown hV.1 hR 5 rfl (htc _ w_1_140) dX9_unrank_11 ?_
    refine rk_lclt (tgt := 20) hx hb dX9_unrank_14 dX9_unrank_15 (by decide) (fun hc2 => ?_) (fun hc2 => ?_)
    · have h := rk_if hc2 h
      refine lv_aload_n hx hb dX9_unrank_20 rfl (lv_at hl 0 rfl) ?_
      refine lv_lload_n hx hb dX9_unrank_21 rfl (lv_at hl 1 rfl) ?_
      obtain ⟨r_22, hc_22, h⟩ := rk_bd h
      refine rk_i (wr := []) (va_runV (C := RX9) (As := [.long v_p1]) (rest := []) hF (mtX9_layDown l D cI cJ cO PL _ a_this a_this_buffer a_this_draft a_this_desk a_this_archive a_this_present c_this_buffer c_this_draft a_this_desk_binomials a_this_desk_partitionCounts a_this_desk_treeCounts a_this_desk_sizes a_this_desk_starts a_this_desk_ranks a_this_desk_letters F_this_present c_this_desk_letters c_this_desk_ranks c_this_desk_sizes c_this_desk_binomials c_this_desk_partitionCounts c_this_desk_treeCounts v_p1 r_22 hc_22) (cwV 1 htc (rk_gV w_3_56 w_3_58 ws_20 w_1_1 w_3_59) rfl rfl rfl (by decide +kernel) ⟨(Nat.le_of_ble_eq_true rfl), (Nat.le_of_ble_eq_true rfl)⟩) (rk_preV (va_recv hV.1 hR (ci := 8) (q0 := 0) rfl rfl) (rk_preS hP hD hS hR hn hPL hnl hV [0, 1, 2, 3, 4] [(false, 0), (false, 1), (false, 2), (false, 3), (false, 4), (false, 5)] rfl (by decide) rfl (by decide))) rfl rfl hl.1 rfl (lv_room (Nat.le_of_ble_eq_true rfl)) dX9_unrank_22 ⟨(Nat.le_of_ble_eq_true rfl), (Nat.le_of_ble_eq_true rfl)⟩) hP hD hS hA hR0 hn [0, 1, 2, 3, 4] [] rfl rfl (by decide) (by decide) (fun H locs hP hD hS hR => ?_)
      have hP : va_P D vwCl [(a_this_buffer, .inl (cI, 60, .inl r_22.2.1)), (a_this_desk_letters, .inl (cI, 4, .inl r_22.2.2.1)), (a_this_desk_ranks, .inl (cJ, 60, .inr (.inl r_22.2.2.2.1))), (a_this_desk_sizes, .inl (cI, 60, .inl r_22.2.2.2.2.1)), (a_this_draft, .inl (cI, 60, .inl r_22.2.2.2.2.2))] H := hP
      have hD : va_D A [(a_this_buffer, .inl (cI, 60, .inl r_22.2.1)), (a_this_desk_letters, .inl (cI, 4, .inl r_22.2.2.1)), (a_this_desk_ranks, .inl (cJ, 60, .inr (.inl r_22.2.2.2.1))), (a_this_desk_sizes, .inl (cI, 60, .inl r_22.2.2.2.2.1)), (a_this_draft, .inl (cI, 60, .inl r_22.2.2.2.2.2))] := hD
      refine lv_if_eq (tgt := 32) hx hb dX9_unrank_25 (by decide) (fun hc3 => ?_) (fun hc3 => ?_)
      · have h := rk_if hc3 h
        refine lv_iconst (v := 0) hx hb dX9_unrank_32 (by decide) ?_
        exact hret ((0 : Int32), r_22.2.1, r_22.2.2.1, r_22.2.2.2.1, r_22.2.2.2.2.1, r_22.2.2.2.2.2) _ _ _ _ h dX9_unrank_33 hP hD hS
      · have h := rk_nif hc3 h
        refine lv_iconst (v := 1) hx hb dX9_unrank_28 (by decide) ?_
        refine lv_goto (tgt := 33) hx hb dX9_unrank_29 (by decide) ?_
        exact hret ((1 : Int32), r_22.2.1, r_22.2.2.1, r_22.2.2.2.1, r_22.2.2.2.2.1, r_22.2.2.2.2.2) _ _ _ _ h dX9_unrank_33 hP hD hS
    · have h := rk_nif hc2 h
      refine lv_iconst (v := (-1)) hx hb dX9_unrank_18 (by decide) ?_
      exact hret ((-1 : Int32), c_this_buffer, c_this_desk_letters, c_this_desk_ranks, c_this_desk_sizes, c_this_draft) _ _ _ _ h dX9_unrank_19 hP hD hS
set_option maxHeartbeats 4000000 in
set_option maxRecDepth 100000 in
theorem mtX9_step (l : Launch) (D : va_G) (cI cJ cO : ClassId) (PL : va_W) (sz : Nat) (a_this : Nat) (a_this_buffer : Nat) (a_this_draft : Nat) (a_this_desk : Nat) (a_this_archive : Nat) (a_this_present : Nat) (c_this_buffer : Nat → Int32) (c_this_draft : Nat → Int32) (a_this_desk_binomials : Nat) (a_this_desk_partitionCounts : Nat) (a_this_desk_treeCounts : Nat) (a_this_desk_sizes : Nat) (a_this_desk_starts : Nat) (a_this_desk_ranks : Nat) (a_this_desk_letters : Nat) (F_this_present : Fm) (c_this_desk_letters : Nat → Int32) (c_this_desk_ranks : Nat → Int64) (c_this_desk_sizes : Nat → Int32) (c_this_desk_binomials : Nat → Int64) (c_this_desk_partitionCounts : Nat → Int32) (c_this_desk_treeCounts : Nat → Int64) (v_p1 : Int32) (r0 : Int32 × (Nat → Int32) × (Nat → Int32) × (Nat → Int64) × (Nat → Int32) × (Nat → Int32)) (h : fX9_step c_this_buffer c_this_draft F_this_present c_this_desk_letters c_this_desk_ranks c_this_desk_sizes c_this_desk_binomials c_this_desk_partitionCounts c_this_desk_treeCounts v_p1 = some r0) : Met l yX9_step (rk_w yX9_step cX9_step 4 (some .int)) rmX9_step (va_Pc [.ref a_this, .int v_p1] (rk_B D (rk_TY cI cJ cO) [(a_this_buffer, .inl (cI, 60, .inl c_this_buffer)), (a_this_desk_letters, .inl (cI, 4, .inl c_this_desk_letters)), (a_this_desk_ranks, .inl (cJ, 60, .inr (.inl c_this_desk_ranks))), (a_this_desk_sizes, .inl (cI, 60, .inl c_this_desk_sizes)), (a_this_draft, .inl (cI, 60, .inl c_this_draft))] [(a_this, .inr (8, [.ref a_this_buffer, .ref a_this_draft, .ref a_this_desk, .ref a_this_archive, .ref a_this_present])), (a_this_desk, .inr (2, [.ref a_this_desk_binomials, .ref a_this_desk_partitionCounts, .ref a_this_desk_treeCounts, .ref a_this_desk_sizes, .ref a_this_desk_starts, .ref a_this_desk_ranks, .ref a_this_desk_letters])), (a_this_desk_binomials, .inl (cJ, 1891, .inr (.inl c_this_desk_binomials))), (a_this_desk_partitionCounts, .inl (cI, 1891, .inl c_this_desk_partitionCounts)), (a_this_desk_treeCounts, .inl (cJ, 31, .inr (.inl c_this_desk_treeCounts))), (a_this_present, rk_fam F_this_present)] PL sz)) (rk_Qi r0.1 D [(a_this_buffer, .inl (cI, 60, .inl r0.2.1)), (a_this_desk_letters, .inl (cI, 4, .inl r0.2.2.1)), (a_this_desk_ranks, .inl (cJ, 60, .inr (.inl r0.2.2.2.1))), (a_this_desk_sizes, .inl (cI, 60, .inl r0.2.2.2.2.1)), (a_this_draft, .inl (cI, 60, .inl r0.2.2.2.2.2))] [(a_this_buffer, .inl (cI, 60, .inl c_this_buffer)), (a_this_desk_letters, .inl (cI, 4, .inl c_this_desk_letters)), (a_this_desk_ranks, .inl (cJ, 60, .inr (.inl c_this_desk_ranks))), (a_this_desk_sizes, .inl (cI, 60, .inl c_this_desk_sizes)), (a_this_draft, .inl (cI, 60, .inl c_this_draft))] sz) 0 0 (va_A [(a_this_buffer, .inl (cI, 60, .inl c_this_buffer)), (a_this_desk_letters, .inl (cI, 4, .inl c_this_desk_letters)), (a_this_desk_ranks, .inl (cJ, 60, .inr (.inl c_this_desk_ranks))), (a_this_desk_sizes, .inl (cI, 60, .inl c_this_desk_sizes)), (a_this_draft, .inl (cI, 60, .inl c_this_draft))] sz) := by
  refine rk_meti h (fun x : Int32 × (Nat → Int32) × (Nat → Int32) × (Nat → Int64) × (Nat → Int32) × (Nat → Int32) => x.1) (fun x => [(a_this_buffer, .inl (cI, 60, .inl x.2.1)), (a_this_desk_letters, .inl (cI, 4, .inl x.2.2.1)), (a_this_desk_ranks, .inl (cJ, 60, .inr (.inl x.2.2.2.1))), (a_this_desk_sizes, .inl (cI, 60, .inl x.2.2.2.2.1)), (a_this_draft, .inl (cI, 60, .inl x.2.2.2.2.2))]) (by decide) (Nat.le_of_ble_eq_true rfl) ?_
  intro p e s m args below meth c A ls Q hret hname hF hP hD hA hV hR0 hn hPL hnl hl h hS
  have hx := hF.1
  have hb := hF.2.1
  have hml := hF.2.2.1
  have hown : s.vm.findClass RX9 = some m.cls := hF.2.2.2.1
  have htc := hF.2.2.2.2
  have hP : va_P D vwCl [(a_this_buffer, .inl (cI, 60, .inl c_this_buffer)), (a_this_desk_letters, .inl (cI, 4, .inl c_this_desk_letters)), (a_this_desk_ranks, .inl (cJ, 60, .inr (.inl c_this_desk_ranks))), (a_this_desk_sizes, .inl (cI, 60, .inl c_this_desk_sizes)), (a_this_draft, .inl (cI, 60, .inl c_this_draft))] s.heap := hP
  have hD : va_D A [(a_this_buffer, .inl (cI, 60, .inl c_this_buffer)), (a_this_desk_letters, .inl (cI, 4, .inl c_this_desk_letters)), (a_this_desk_ranks, .inl (cJ, 60, .inr (.inl c_this_desk_ranks))), (a_this_desk_sizes, .inl (cI, 60, .inl c_this_desk_sizes)), (a_this_draft, .inl (cI, 60, .inl c_this_draft))] := hD
  have hR0 : va_P D vwCl [(a_this, .inr (8, [.ref a_this_buffer, .ref a_this_draft, .ref a_this_desk, .ref a_this_archive, .ref a_this_present])), (a_this_desk, .inr (2, [.ref a_this_desk_binomials, .ref a_this_desk_partitionCounts, .ref a_this_desk_treeCounts, .ref a_this_desk_sizes, .ref a_this_desk_starts, .ref a_this_desk_ranks, .ref a_this_desk_letters])), (a_this_desk_binomials, .inl (cJ, 1891, .inr (.inl c_this_desk_binomials))), (a_this_desk_partitionCounts, .inl (cI, 1891, .inl c_this_desk_partitionCounts)), (a_this_desk_treeCounts, .inl (cJ, 31, .inr (.inl c_this_desk_treeCounts))), (a_this_present, rk_fam F_this_present)] s.heap := hR0
  have hR := hR0
  have hl : lv_has ls 4 [(0, .ref a_this), (1, .int v_p1)] := hl
  unfold fX9_step at h
  refine lv_iload_n hx hb dX9_step_0 rfl (lv_at hl 1 rfl) ?_
  refine lv_ldc (v := (-1000000 : Int32)) hx hb hown (htc _ w_3_64) dX9_step_1 ?_
  refine lv_icmp_lt (tgt := 12) hx hb dX9_step_3 (by decide) (fun hc1 => ?_) (fun hc1 => ?_)
  · have h := rk_if hc1 h
    refine lv_iconst (v := (-1)) hx hb dX9_step_12 (by decide) ?_
    exact hret ((-1 : Int32), c_this_buffer, c_this_desk_letters, c_this_desk_ranks, c_this_desk_sizes, c_this_draft) _ _ _ _ h dX9_step_13 hP hD hS
  · have h := rk_nif hc1 h
    refine lv_iload_n hx hb dX9_step_6 rfl (lv_at hl 1 rfl) ?_
    refine lv_ldc (v := (1000000 : Int32)) hx hb hown (htc _ w_3_65) dX9_step_7 ?_
    refine lv_icmp_le (tgt := 14) hx hb dX9_step_9 (by decide) (fun hc2 => ?_) (fun hc2 => ?_)
    · have h := rk_if hc2 h
      refine lv_aload_n hx hb dX9_step_14 rfl (lv_at hl 0 rfl) ?_
      obtain ⟨r_15, hc_15, h⟩ := rk_bd h
      refine rk_i (wr := [(a_this_buffer, .inl (cI, 60, .inl c_this_buffer)), (a_this_desk_ranks, .inl (cJ, 60, .inr (.inl c_this_desk_ranks))), (a_this_draft, .inl (cI, 60, .inl c_this_draft))]) (va_runV (C := RX9) (As := []) (rest := []) hF (mtX9_holdsObject l D cI cJ cO PL _ a_this a_this_buffer a_this_draft a_this_desk a_this_archive a_this_present c_this_buffer a_this_desk_binomials a_this_desk_partitionCounts a_this_desk_treeCounts a_this_desk_sizes a_this_desk_starts a_this_desk_ranks a_this_desk_letters F_this_present c_this_desk_letters c_this_desk_sizes r_15 hc_15) (cwV 0 htc (rk_gV w_2_219 w_2_221 ws_15 w_1_1 w_2_222) rfl rfl rfl (by decide +kernel) ⟨(Nat.le_of_ble_eq_true rfl), (Nat.le_of_ble_eq_true rfl)⟩) (rk_preV (va_recv hV.1 hR (ci := 8) (q0 := 0) rfl rfl) (rk_preS hP hD hS hR hn hPL hnl hV [1, 3] [(false, 0), (true, 0), (false, 1), (false, 5)] rfl (by decide) rfl (by decide))) rfl rfl hl.1 rfl (lv_room (Nat.le_of_ble_eq_true rfl)) dX9_step_15 ⟨(Nat.le_of_ble_eq_true rfl), (Nat.le_of_ble_eq_true rfl)⟩) hP hD hS hA hR0 hn [1, 3] [0, 2, 4] rfl rfl (by decide) (by decide) (fun H locs hP hD hS hR => ?_)
      have hP : va_P D vwCl [(a_this_buffer, .inl (cI, 60, .inl c_this_buffer)), (a_this_desk_ranks, .inl (cJ, 60, .inr (.inl c_this_desk_ranks))), (a_this_draft, .inl (cI, 60, .inl c_this_draft)), (a_this_desk_letters, .inl (cI, 4, .inl r_15.2.1)), (a_this_desk_sizes, .inl (cI, 60, .inl r_15.2.2))] H := hP
      have hD : va_D A [(a_this_buffer, .inl (cI, 60, .inl c_this_buffer)), (a_this_desk_ranks, .inl (cJ, 60, .inr (.inl c_this_desk_ranks))), (a_this_draft, .inl (cI, 60, .inl c_this_draft)), (a_this_desk_letters, .inl (cI, 4, .inl r_15.2.1)), (a_this_desk_sizes, .inl (cI, 60, .inl r_15.2.2))] := hD
      refine lv_if_ne (tgt := 24) hx hb dX9_step_18 (by decide) (fun hc3 => ?_) (fun hc3 => ?_)
      · have h := rk_if hc3 h
        refine lv_aload_n hx hb dX9_step_24 rfl (lv_at hl 0 rfl) ?_
        refine va_get (D := D) (ci := 8) (v := .ref a_this_present) (C := RX9) (T := TX9) (N := 5) hx hb htc inX9 hown hV.1 hR 0 rfl rfl 4 (by decide) (htc _ w_1_156) (fun _ h9 => h9) rfl dX9_step_25 ?_
        refine lv_aload_n hx hb dX9_step_28 rfl (lv_at hl 0 rfl) ?_
        refine va_get (D := D) (ci := 8) (v := .ref a_this_buffer) (C := RX9) (T := TX9) (N := 5) hx hb htc inX9 hown hV.1 hR 0 rfl rfl 0 (by decide) (htc _ w_1_152) (fun _ h9 => h9) rfl dX9_step_29 ?_
        refine lv_aload_n hx hb dX9_step_32 rfl (lv_at hl 0 rfl) ?_
        refine va_get (D := D) (ci := 8) (v := .ref a_this_desk) (C := RX9) (T := TX9) (N := 5) hx hb htc inX9 hown hV.1 hR 0 rfl rfl 2 (by decide) (htc _ w_1_154) (fun _ h9 => h9) rfl dX9_step_33 ?_
        obtain ⟨r_36, hc_36, h⟩ := rk_bd h
        refine rk_l (wr := [(a_this_buffer, .inl (cI, 60, .inl c_this_buffer)), (a_this_draft, .inl (cI, 60, .inl c_this_draft))]) (vr_placeOf (As := [.ref a_this_buffer, .ref a_this_desk]) (rest := []) hF htc hV w_3_14 rfl PL a_this_present F_this_present a_this_buffer c_this_buffer a_this_desk a_this_desk_binomials a_this_desk_partitionCounts a_this_desk_treeCounts a_this_desk_sizes a_this_desk_starts a_this_desk_ranks a_this_desk_letters r_15.2.1 c_this_desk_ranks r_15.2.2 c_this_desk_binomials c_this_desk_partitionCounts c_this_desk_treeCounts r_36 hc_36 (hR 5 _ rfl) (rk_preS hP hD hS hR hn hPL hnl hV [3, 1, 4] [(false, 5), (true, 0), (false, 1), (false, 2), (false, 3), (false, 4)] rfl (by decide) rfl (by decide)) rfl rfl hl.1 rfl (lv_room (Nat.le_of_ble_eq_true rfl)) dX9_step_36 ⟨(Nat.le_of_ble_eq_true rfl), (Nat.le_of_ble_eq_true rfl)⟩ (Nat.le_of_ble_eq_true rfl) (Nat.le_of_ble_eq_true rfl) rfl) hP hD hS hA hR0 hn [3, 1, 4] [0, 2] rfl rfl (by decide) (by decide) (fun H locs hP hD hS hR => ?_)
        have hP : va_P D vwCl [(a_this_buffer, .inl (cI, 60, .inl c_this_buffer)), (a_this_draft, .inl (cI, 60, .inl c_this_draft)), (a_this_desk_letters, .inl (cI, 4, .inl r_36.2.1)), (a_this_desk_ranks, .inl (cJ, 60, .inr (.inl r_36.2.2.1))), (a_this_desk_sizes, .inl (cI, 60, .inl r_36.2.2.2))] H := hP
        have hD : va_D A [(a_this_buffer, .inl (cI, 60, .inl c_this_buffer)), (a_this_draft, .inl (cI, 60, .inl c_this_draft)), (a_this_desk_letters, .inl (cI, 4, .inl r_36.2.1)), (a_this_desk_ranks, .inl (cJ, 60, .inr (.inl r_36.2.2.1))), (a_this_desk_sizes, .inl (cI, 60, .inl r_36.2.2.2))] := hD
        refine lv_iload_n hx hb dX9_step_39 rfl (lv_at hl 1 rfl) ?_
        refine lv_i2l hx hb dX9_step_40 rfl ?_
        refine lv_ladd hx hb dX9_step_41 ?_
        refine lv_lstore_n (lv' := [(2, .long (r_36.1 + v_p1.toInt64)), (0, .ref a_this), (1, .int v_p1)]) hx hb dX9_step_42 rfl hl (by decide) rfl (fun ls hl => ?_)
        refine lv_lload_n hx hb dX9_step_43 rfl (lv_at hl 0 rfl) ?_
        refine lv_lconst (v := 0) hx hb dX9_step_44 (by decide) ?_
        refine rk_lclt (tgt := 61) hx hb dX9_step_45 dX9_step_46 (by decide) (fun hc4 => ?_) (fun hc4 => ?_)
        · have h := rk_if hc4 h
          refine lv_bipush (v := (-6)) hx hb dX9_step_61 (by decide) ?_
          exact hret ((-6 : Int32), c_this_buffer, r_36.2.1, r_36.2.2.1, r_36.2.2.2, c_this_draft) _ _ _ _ h dX9_step_63 (hP.sub [0, 2, 3, 4, 1] rfl) (hD.sub [0, 2, 3, 4, 1] (by decide) rfl) hS
        · have h := rk_nif hc4 h
          refine lv_lload_n hx hb dX9_step_49 rfl (lv_at hl 0 rfl) ?_
          refine lv_aload_n hx hb dX9_step_50 rfl (lv_at hl 1 rfl) ?_
          refine va_get (D := D) (ci := 8) (v := .ref a_this_present) (C := RX9) (T := TX9) (N := 5) hx hb htc inX9 hown hV.1 hR 0 rfl rfl 4 (by decide) (htc _ w_1_156) (fun _ h9 => h9) rfl dX9_step_51 ?_
          refine rk_fget_size hx hb htc hown hV.1 hR 5 rfl (htc _ w_1_140) dX9_step_54 ?_
          refine rk_lclt (tgt := 64) hx hb dX9_step_57 dX9_step_58 (by decide) (fun hc5 => ?_) (fun hc5 => ?_)
          · have h := rk_if hc5 h
            refine lv_aload_n hx hb dX9_step_64 rfl (lv_at hl 1 rfl) ?_
            refine lv_lload_n hx hb dX9_step_65 rfl (lv_at hl 0 rfl) ?_
            obtain ⟨r_66, hc_66, h⟩ := rk_bd h
            refine rk_i (wr := []) (va_runV (C := RX9) (As := [.long (r_36.1 + v_p1.toInt64)]) (rest := []) hF (mtX9_layDown l D cI cJ cO PL _ a_this a_this_buffer a_this_draft a_this_desk a_this_archive a_this_present c_this_buffer c_this_draft a_this_desk_binomials a_this_desk_partitionCounts a_this_desk_treeCounts a_this_desk_sizes a_this_desk_starts a_this_desk_ranks a_this_desk_letters F_this_present r_36.2.1 r_36.2.2.1 r_36.2.2.2 c_this_desk_binomials c_this_desk_partitionCounts c_this_desk_treeCounts (r_36.1 + v_p1.toInt64) r_66 hc_66) (cwV 1 htc (rk_gV w_3_56 w_3_58 ws_20 w_1_1 w_3_59) rfl rfl rfl (by decide +kernel) ⟨(Nat.le_of_ble_eq_true rfl), (Nat.le_of_ble_eq_true rfl)⟩) (rk_preV (va_recv hV.1 hR (ci := 8) (q0 := 0) rfl rfl) (rk_preS hP hD hS hR hn hPL hnl hV [0, 2, 3, 4, 1] [(false, 0), (false, 1), (false, 2), (false, 3), (false, 4), (false, 5)] rfl (by decide) rfl (by decide))) rfl rfl hl.1 rfl (lv_room (Nat.le_of_ble_eq_true rfl)) dX9_step_66 ⟨(Nat.le_of_ble_eq_true rfl), (Nat.le_of_ble_eq_true rfl)⟩) hP hD hS hA hR0 hn [0, 2, 3, 4, 1] [] rfl rfl (by decide) (by decide) (fun H locs hP hD hS hR => ?_)
            have hP : va_P D vwCl [(a_this_buffer, .inl (cI, 60, .inl r_66.2.1)), (a_this_desk_letters, .inl (cI, 4, .inl r_66.2.2.1)), (a_this_desk_ranks, .inl (cJ, 60, .inr (.inl r_66.2.2.2.1))), (a_this_desk_sizes, .inl (cI, 60, .inl r_66.2.2.2.2.1)), (a_this_draft, .inl (cI, 60, .inl r_66.2.2.2.2.2))] H := hP
            have hD : va_D A [(a_this_buffer, .inl (cI, 60, .inl r_66.2.1)), (a_this_desk_letters, .inl (cI, 4, .inl r_66.2.2.1)), (a_this_desk_ranks, .inl (cJ, 60, .inr (.inl r_66.2.2.2.1))), (a_this_desk_sizes, .inl (cI, 60, .inl r_66.2.2.2.2.1)), (a_this_draft, .inl (cI, 60, .inl r_66.2.2.2.2.2))] := hD
            refine lv_pop hx hb dX9_step_69 rfl ?_
            refine lv_iconst (v := 1) hx hb dX9_step_70 (by decide) ?_
            exact hret ((1 : Int32), r_66.2.1, r_66.2.2.1, r_66.2.2.2.1, r_66.2.2.2.2.1, r_66.2.2.2.2.2) _ _ _ _ h dX9_step_71 hP hD hS
          · have h := rk_nif hc5 h
            refine lv_bipush (v := (-6)) hx hb dX9_step_61 (by decide) ?_
            exact hret ((-6 : Int32), c_this_buffer, r_36.2.1, r_36.2.2.1, r_36.2.2.2, c_this_draft) _ _ _ _ h dX9_step_63 (hP.sub [0, 2, 3, 4, 1] rfl) (hD.sub [0, 2, 3, 4, 1] (by decide) rfl) hS
      · have h := rk_nnif hc3 h
        refine lv_bipush (v := (-2)) hx hb dX9_step_21 (by decide) ?_
        exact hret ((-2 : Int32), c_this_buffer, r_15.2.1, c_this_desk_ranks, r_15.2.2, c_this_draft) _ _ _ _ h dX9_step_23 (hP.sub [0, 3, 1, 4, 2] rfl) (hD.sub [0, 3, 1, 4, 2] (by decide) rfl) hS
    · have h := rk_nif hc2 h
      refine lv_iconst (v := (-1)) hx hb dX9_step_12 (by decide) ?_
      exact hret ((-1 : Int32), c_this_buffer, c_this_desk_letters, c_this_desk_ranks, c_this_desk_sizes, c_this_draft) _ _ _ _ h dX9_step_13 hP hD hS
set_option maxHeartbeats 4000000 in
set_option maxRecDepth 100000 in
theorem mtX9_draw (l : Launch) (D : va_G) (cI cJ cO : ClassId) (PL : va_W) (sz : Nat) (a_this : Nat) (a_this_buffer : Nat) (a_this_draft : Nat) (a_this_desk : Nat) (a_this_archive : Nat) (a_this_present : Nat) (c_this_buffer : Nat → Int32) (c_this_draft : Nat → Int32) (a_this_desk_binomials : Nat) (a_this_desk_partitionCounts : Nat) (a_this_desk_treeCounts : Nat) (a_this_desk_sizes : Nat) (a_this_desk_starts : Nat) (a_this_desk_ranks : Nat) (a_this_desk_letters : Nat) (F_this_present : Fm) (c_this_desk_letters : Nat → Int32) (c_this_desk_ranks : Nat → Int64) (c_this_desk_sizes : Nat → Int32) (c_this_desk_binomials : Nat → Int64) (c_this_desk_partitionCounts : Nat → Int32) (c_this_desk_treeCounts : Nat → Int64) (v_p1 : Int64) (r0 : Int64 × (Nat → Int32) × (Nat → Int32) × (Nat → Int64) × (Nat → Int32) × (Nat → Int32)) (h : fX9_draw c_this_buffer c_this_draft F_this_present c_this_desk_letters c_this_desk_ranks c_this_desk_sizes c_this_desk_binomials c_this_desk_partitionCounts c_this_desk_treeCounts v_p1 = some r0) : Met l yX9_draw (rk_w yX9_draw cX9_draw 9 (some .long)) rmX9_draw (va_Pc [.ref a_this, .long v_p1] (rk_B D (rk_TY cI cJ cO) [(a_this_buffer, .inl (cI, 60, .inl c_this_buffer)), (a_this_desk_letters, .inl (cI, 4, .inl c_this_desk_letters)), (a_this_desk_ranks, .inl (cJ, 60, .inr (.inl c_this_desk_ranks))), (a_this_desk_sizes, .inl (cI, 60, .inl c_this_desk_sizes)), (a_this_draft, .inl (cI, 60, .inl c_this_draft))] [(a_this, .inr (8, [.ref a_this_buffer, .ref a_this_draft, .ref a_this_desk, .ref a_this_archive, .ref a_this_present])), (a_this_desk, .inr (2, [.ref a_this_desk_binomials, .ref a_this_desk_partitionCounts, .ref a_this_desk_treeCounts, .ref a_this_desk_sizes, .ref a_this_desk_starts, .ref a_this_desk_ranks, .ref a_this_desk_letters])), (a_this_desk_binomials, .inl (cJ, 1891, .inr (.inl c_this_desk_binomials))), (a_this_desk_partitionCounts, .inl (cI, 1891, .inl c_this_desk_partitionCounts)), (a_this_desk_treeCounts, .inl (cJ, 31, .inr (.inl c_this_desk_treeCounts))), (a_this_present, rk_fam F_this_present)] PL sz)) (rk_Ql r0.1 D [(a_this_buffer, .inl (cI, 60, .inl r0.2.1)), (a_this_desk_letters, .inl (cI, 4, .inl r0.2.2.1)), (a_this_desk_ranks, .inl (cJ, 60, .inr (.inl r0.2.2.2.1))), (a_this_desk_sizes, .inl (cI, 60, .inl r0.2.2.2.2.1)), (a_this_draft, .inl (cI, 60, .inl r0.2.2.2.2.2))] [(a_this_buffer, .inl (cI, 60, .inl c_this_buffer)), (a_this_desk_letters, .inl (cI, 4, .inl c_this_desk_letters)), (a_this_desk_ranks, .inl (cJ, 60, .inr (.inl c_this_desk_ranks))), (a_this_desk_sizes, .inl (cI, 60, .inl c_this_desk_sizes)), (a_this_draft, .inl (cI, 60, .inl c_this_draft))] sz) 0 0 (va_A [(a_this_buffer, .inl (cI, 60, .inl c_this_buffer)), (a_this_desk_letters, .inl (cI, 4, .inl c_this_desk_letters)), (a_this_desk_ranks, .inl (cJ, 60, .inr (.inl c_this_desk_ranks))), (a_this_desk_sizes, .inl (cI, 60, .inl c_this_desk_sizes)), (a_this_draft, .inl (cI, 60, .inl c_this_draft))] sz) := by
  refine rk_metl h (fun x : Int64 × (Nat → Int32) × (Nat → Int32) × (Nat → Int64) × (Nat → Int32) × (Nat → Int32) => x.1) (fun x => [(a_this_buffer, .inl (cI, 60, .inl x.2.1)), (a_this_desk_letters, .inl (cI, 4, .inl x.2.2.1)), (a_this_desk_ranks, .inl (cJ, 60, .inr (.inl x.2.2.2.1))), (a_this_desk_sizes, .inl (cI, 60, .inl x.2.2.2.2.1)), (a_this_draft, .inl (cI, 60, .inl x.2.2.2.2.2))]) (by decide) (Nat.le_of_ble_eq_true rfl) ?_
  intro p e s m args below meth c A ls Q hret hname hF hP hD hA hV hR0 hn hPL hnl hl h hS
  have hx := hF.1
  have hb := hF.2.1
  have hml := hF.2.2.1
  have hown : s.vm.findClass RX9 = some m.cls := hF.2.2.2.1
  have htc := hF.2.2.2.2
  have hP : va_P D vwCl [(a_this_buffer, .inl (cI, 60, .inl c_this_buffer)), (a_this_desk_letters, .inl (cI, 4, .inl c_this_desk_letters)), (a_this_desk_ranks, .inl (cJ, 60, .inr (.inl c_this_desk_ranks))), (a_this_desk_sizes, .inl (cI, 60, .inl c_this_desk_sizes)), (a_this_draft, .inl (cI, 60, .inl c_this_draft))] s.heap := hP
  have hD : va_D A [(a_this_buffer, .inl (cI, 60, .inl c_this_buffer)), (a_this_desk_letters, .inl (cI, 4, .inl c_this_desk_letters)), (a_this_desk_ranks, .inl (cJ, 60, .inr (.inl c_this_desk_ranks))), (a_this_desk_sizes, .inl (cI, 60, .inl c_this_desk_sizes)), (a_this_draft, .inl (cI, 60, .inl c_this_draft))] := hD
  have hR0 : va_P D vwCl [(a_this, .inr (8, [.ref a_this_buffer, .ref a_this_draft, .ref a_this_desk, .ref a_this_archive, .ref a_this_present])), (a_this_desk, .inr (2, [.ref a_this_desk_binomials, .ref a_this_desk_partitionCounts, .ref a_this_desk_treeCounts, .ref a_this_desk_sizes, .ref a_this_desk_starts, .ref a_this_desk_ranks, .ref a_this_desk_letters])), (a_this_desk_binomials, .inl (cJ, 1891, .inr (.inl c_this_desk_binomials))), (a_this_desk_partitionCounts, .inl (cI, 1891, .inl c_this_desk_partitionCounts)), (a_this_desk_treeCounts, .inl (cJ, 31, .inr (.inl c_this_desk_treeCounts))), (a_this_present, rk_fam F_this_present)] s.heap := hR0
  have hR := hR0
  have hl : lv_has ls 9 [(0, .ref a_this), (1, .long v_p1)] := hl
  unfold fX9_draw at h
  refine lv_lload_n hx hb dX9_draw_0 rfl (lv_at hl 1 rfl) ?_
  refine lv_ldc2 (v := (6364136223846793005 : Int64)) hx hb hown (htc _ w_3_70) dX9_draw_1 ?_
  refine lv_lmul hx hb dX9_draw_4 ?_
  refine lv_ldc2 (v := (1442695040888963407 : Int64)) hx hb hown (htc _ w_3_71) dX9_draw_5 ?_
  refine lv_ladd hx hb dX9_draw_8 ?_
  refine lv_lstore_n (lv' := [(3, .long ((v_p1 * (6364136223846793005 : Int64)) + (1442695040888963407 : Int64))), (0, .ref a_this), (1, .long v_p1)]) hx hb dX9_draw_9 rfl hl (by decide) rfl (fun ls hl => ?_)
  refine lv_lload_n hx hb dX9_draw_10 rfl (lv_at hl 0 rfl) ?_
  refine lv_lload_n hx hb dX9_draw_11 rfl (lv_at hl 0 rfl) ?_
  refine lv_bipush (v := 33) hx hb dX9_draw_12 (by decide) ?_
  refine lv_lushr hx hb dX9_draw_14 rfl ?_
  refine lv_lxor hx hb dX9_draw_15 ?_
  refine lv_lstore (lv' := [(5, .long (((v_p1 * (6364136223846793005 : Int64)) + (1442695040888963407 : Int64)) ^^^ (((v_p1 * (6364136223846793005 : Int64)) + (1442695040888963407 : Int64)).toUInt64 >>> ((33 : Int32).toInt64.toUInt64 &&& Int64.toUInt64 63)).toInt64)), (3, .long ((v_p1 * (6364136223846793005 : Int64)) + (1442695040888963407 : Int64))), (0, .ref a_this), (1, .long v_p1)]) hx hb dX9_draw_16 hl (by decide) rfl (fun ls hl => ?_)
  refine lv_lload hx hb dX9_draw_18 (lv_at hl 0 rfl) ?_
  refine lv_iconst (v := 1) hx hb dX9_draw_20 (by decide) ?_
  refine lv_lushr hx hb dX9_draw_21 rfl ?_
  refine lv_aload_n hx hb dX9_draw_22 rfl (lv_at hl 2 rfl) ?_
  refine va_get (D := D) (ci := 8) (v := .ref a_this_present) (C := RX9) (T := TX9) (N := 5) hx hb htc inX9 hown hV.1 hR 0 rfl rfl 4 (by decide) (htc _ w_1_156) (fun _ h9 => h9) rfl dX9_draw_23 ?_
  refine rk_fget_size hx hb htc hown hV.1 hR 5 rfl (htc _ w_1_140) dX9_draw_26 ?_
  obtain ⟨r_29, hc_29, h⟩ := rk_bd h
  refine rk_l (wr := [(a_this_buffer, .inl (cI, 60, .inl c_this_buffer)), (a_this_desk_letters, .inl (cI, 4, .inl c_this_desk_letters)), (a_this_desk_ranks, .inl (cJ, 60, .inr (.inl c_this_desk_ranks))), (a_this_desk_sizes, .inl (cI, 60, .inl c_this_desk_sizes)), (a_this_draft, .inl (cI, 60, .inl c_this_draft))]) (va_runS (As := [.long ((((v_p1 * (6364136223846793005 : Int64)) + (1442695040888963407 : Int64)) ^^^ (((v_p1 * (6364136223846793005 : Int64)) + (1442695040888963407 : Int64)).toUInt64 >>> ((33 : Int32).toInt64.toUInt64 &&& Int64.toUInt64 63)).toInt64).toUInt64 >>> ((1 : Int32).toInt64.toUInt64 &&& Int64.toUInt64 63)).toInt64, .long F_this_present.2.2.2.1]) (rest := []) hF (mtX9_remainder l D cI cJ cO PL _ (((((v_p1 * (6364136223846793005 : Int64)) + (1442695040888963407 : Int64)) ^^^ (((v_p1 * (6364136223846793005 : Int64)) + (1442695040888963407 : Int64)).toUInt64 >>> ((33 : Int32).toInt64.toUInt64 &&& Int64.toUInt64 63)).toInt64).toUInt64 >>> ((1 : Int32).toInt64.toUInt64 &&& Int64.toUInt64 63)).toInt64) F_this_present.2.2.2.1 r_29 hc_29) (va_cwS 2 htc (rk_gVS w_3_72 w_1_227 w_1_1 w_1_228) rfl rfl rfl (by decide +kernel) ⟨(Nat.le_of_ble_eq_true rfl), (Nat.le_of_ble_eq_true rfl)⟩) (rk_preS hP hD hS hR hn hPL hnl hV [] [] rfl (by decide) rfl (by decide)) rfl rfl hl.1 rfl (lv_room (Nat.le_of_ble_eq_true rfl)) dX9_draw_29 ⟨(Nat.le_of_ble_eq_true rfl), (Nat.le_of_ble_eq_true rfl)⟩) hP hD hS hA hR0 hn [] [0, 1, 2, 3, 4] rfl rfl (by decide) (by decide) (fun H locs hP hD hS hR => ?_)
  have hP : va_P D vwCl [(a_this_buffer, .inl (cI, 60, .inl c_this_buffer)), (a_this_desk_letters, .inl (cI, 4, .inl c_this_desk_letters)), (a_this_desk_ranks, .inl (cJ, 60, .inr (.inl c_this_desk_ranks))), (a_this_desk_sizes, .inl (cI, 60, .inl c_this_desk_sizes)), (a_this_draft, .inl (cI, 60, .inl c_this_draft))] H := hP
  have hD : va_D A [(a_this_buffer, .inl (cI, 60, .inl c_this_buffer)), (a_this_desk_letters, .inl (cI, 4, .inl c_this_desk_letters)), (a_this_desk_ranks, .inl (cJ, 60, .inr (.inl c_this_desk_ranks))), (a_this_desk_sizes, .inl (cI, 60, .inl c_this_desk_sizes)), (a_this_draft, .inl (cI, 60, .inl c_this_draft))] := hD
  refine lv_lstore (lv' := [(7, .long r_29), (5, .long (((v_p1 * (6364136223846793005 : Int64)) + (1442695040888963407 : Int64)) ^^^ (((v_p1 * (6364136223846793005 : Int64)) + (1442695040888963407 : Int64)).toUInt64 >>> ((33 : Int32).toInt64.toUInt64 &&& Int64.toUInt64 63)).toInt64)), (3, .long ((v_p1 * (6364136223846793005 : Int64)) + (1442695040888963407 : Int64))), (0, .ref a_this), (1, .long v_p1)]) hx hb dX9_draw_32 hl (by decide) rfl (fun ls hl => ?_)
  refine lv_aload_n hx hb dX9_draw_34 rfl (lv_at hl 3 rfl) ?_
  refine lv_lload hx hb dX9_draw_35 (lv_at hl 0 rfl) ?_
  obtain ⟨r_37, hc_37, h⟩ := rk_bd h
  refine rk_i (wr := []) (va_runV (C := RX9) (As := [.long r_29]) (rest := []) hF (mtX9_layDown l D cI cJ cO PL _ a_this a_this_buffer a_this_draft a_this_desk a_this_archive a_this_present c_this_buffer c_this_draft a_this_desk_binomials a_this_desk_partitionCounts a_this_desk_treeCounts a_this_desk_sizes a_this_desk_starts a_this_desk_ranks a_this_desk_letters F_this_present c_this_desk_letters c_this_desk_ranks c_this_desk_sizes c_this_desk_binomials c_this_desk_partitionCounts c_this_desk_treeCounts r_29 r_37 hc_37) (cwV 1 htc (rk_gV w_3_56 w_3_58 ws_20 w_1_1 w_3_59) rfl rfl rfl (by decide +kernel) ⟨(Nat.le_of_ble_eq_true rfl), (Nat.le_of_ble_eq_true rfl)⟩) (rk_preV (va_recv hV.1 hR (ci := 8) (q0 := 0) rfl rfl) (rk_preS hP hD hS hR hn hPL hnl hV [0, 1, 2, 3, 4] [(false, 0), (false, 1), (false, 2), (false, 3), (false, 4), (false, 5)] rfl (by decide) rfl (by decide))) rfl rfl hl.1 rfl (lv_room (Nat.le_of_ble_eq_true rfl)) dX9_draw_37 ⟨(Nat.le_of_ble_eq_true rfl), (Nat.le_of_ble_eq_true rfl)⟩) hP hD hS hA hR0 hn [0, 1, 2, 3, 4] [] rfl rfl (by decide) (by decide) (fun H locs hP hD hS hR => ?_)
  have hP : va_P D vwCl [(a_this_buffer, .inl (cI, 60, .inl r_37.2.1)), (a_this_desk_letters, .inl (cI, 4, .inl r_37.2.2.1)), (a_this_desk_ranks, .inl (cJ, 60, .inr (.inl r_37.2.2.2.1))), (a_this_desk_sizes, .inl (cI, 60, .inl r_37.2.2.2.2.1)), (a_this_draft, .inl (cI, 60, .inl r_37.2.2.2.2.2))] H := hP
  have hD : va_D A [(a_this_buffer, .inl (cI, 60, .inl r_37.2.1)), (a_this_desk_letters, .inl (cI, 4, .inl r_37.2.2.1)), (a_this_desk_ranks, .inl (cJ, 60, .inr (.inl r_37.2.2.2.1))), (a_this_desk_sizes, .inl (cI, 60, .inl r_37.2.2.2.2.1)), (a_this_draft, .inl (cI, 60, .inl r_37.2.2.2.2.2))] := hD
  refine lv_pop hx hb dX9_draw_40 rfl ?_
  refine lv_lload hx hb dX9_draw_41 (lv_at hl 0 rfl) ?_
  exact hret (r_29, r_37.2.1, r_37.2.2.1, r_37.2.2.2.1, r_37.2.2.2.2.1, r_37.2.2.2.2.2) _ _ _ _ h dX9_draw_43 hP hD hS
set_option maxHeartbeats 4000000 in
set_option maxRecDepth 100000 in
theorem mtX9_toWord (l : Launch) (D : va_G) (cI cJ cO : ClassId) (PL : va_W) (sz : Nat) (a_this : Nat) (a_this_buffer : Nat) (a_this_draft : Nat) (a_this_desk : Nat) (a_this_archive : Nat) (a_this_present : Nat) (c_this_buffer : Nat → Int32) (c_this_draft : Nat → Int32) (a_this_desk_binomials : Nat) (a_this_desk_partitionCounts : Nat) (a_this_desk_treeCounts : Nat) (a_this_desk_sizes : Nat) (a_this_desk_starts : Nat) (a_this_desk_ranks : Nat) (a_this_desk_letters : Nat) (F_this_present : Fm) (c_this_desk_letters : Nat → Int32) (c_this_desk_sizes : Nat → Int32) (c_this_desk_starts : Nat → Int32) (c_this_desk_binomials : Nat → Int64) (r0 : Int32 × Option Fm × (Nat → Int32) × (Nat → Int32) × (Nat → Int32) × (Nat → Int32) × (Nat → Int32)) (h : fX9_toWord c_this_buffer c_this_draft F_this_present c_this_desk_letters c_this_desk_sizes c_this_desk_starts c_this_desk_binomials = some r0) : Met l yX9_toWord (rk_w yX9_toWord cX9_toWord 2 (some .int)) rmX9_toWord (va_Pc [.ref a_this] (rk_B D (rk_TY cI cJ cO) [(a_this, .inr (8, [.ref a_this_buffer, .ref a_this_draft, .ref a_this_desk, .ref a_this_archive, .ref a_this_present])), (a_this_buffer, .inl (cI, 60, .inl c_this_buffer)), (a_this_desk_letters, .inl (cI, 4, .inl c_this_desk_letters)), (a_this_desk_sizes, .inl (cI, 60, .inl c_this_desk_sizes)), (a_this_desk_starts, .inl (cI, 60, .inl c_this_desk_starts)), (a_this_draft, .inl (cI, 60, .inl c_this_draft))] [(a_this_desk, .inr (2, [.ref a_this_desk_binomials, .ref a_this_desk_partitionCounts, .ref a_this_desk_treeCounts, .ref a_this_desk_sizes, .ref a_this_desk_starts, .ref a_this_desk_ranks, .ref a_this_desk_letters])), (a_this_desk_binomials, .inl (cJ, 1891, .inr (.inl c_this_desk_binomials))), (a_this_present, rk_fam F_this_present)] PL sz)) (rk_Qie r0.1 D (fun q => ([(a_this, .inr (8, [.ref a_this_buffer, .ref a_this_draft, .ref a_this_desk, .ref a_this_archive, .ref (rk_pn r0.2.1 a_this_present (q 0))])), (a_this_buffer, .inl (cI, 60, .inl r0.2.2.1)), (a_this_desk_letters, .inl (cI, 4, .inl r0.2.2.2.1)), (a_this_desk_sizes, .inl (cI, 60, .inl r0.2.2.2.2.1)), (a_this_desk_starts, .inl (cI, 60, .inl r0.2.2.2.2.2.1)), (a_this_draft, .inl (cI, 60, .inl r0.2.2.2.2.2.2))] ++ rk_nc r0.2.1 (q 0))) [(a_this, .inr (8, [.ref a_this_buffer, .ref a_this_draft, .ref a_this_desk, .ref a_this_archive, .ref a_this_present])), (a_this_buffer, .inl (cI, 60, .inl c_this_buffer)), (a_this_desk_letters, .inl (cI, 4, .inl c_this_desk_letters)), (a_this_desk_sizes, .inl (cI, 60, .inl c_this_desk_sizes)), (a_this_desk_starts, .inl (cI, 60, .inl c_this_desk_starts)), (a_this_draft, .inl (cI, 60, .inl c_this_draft))] sz) 1 5 (va_A [(a_this, .inr (8, [.ref a_this_buffer, .ref a_this_draft, .ref a_this_desk, .ref a_this_archive, .ref a_this_present])), (a_this_buffer, .inl (cI, 60, .inl c_this_buffer)), (a_this_desk_letters, .inl (cI, 4, .inl c_this_desk_letters)), (a_this_desk_sizes, .inl (cI, 60, .inl c_this_desk_sizes)), (a_this_desk_starts, .inl (cI, 60, .inl c_this_desk_starts)), (a_this_draft, .inl (cI, 60, .inl c_this_draft))] sz) := by
  refine rk_metie (y := yX9_toWord) (cc := cX9_toWord) (maxL := 2) (av := [.ref a_this]) (sz := sz) h (fun x : Int32 × Option Fm × (Nat → Int32) × (Nat → Int32) × (Nat → Int32) × (Nat → Int32) × (Nat → Int32) => x.1) (fun x q => ([(a_this, .inr (8, [.ref a_this_buffer, .ref a_this_draft, .ref a_this_desk, .ref a_this_archive, .ref (rk_pn x.2.1 a_this_present (q 0))])), (a_this_buffer, .inl (cI, 60, .inl x.2.2.1)), (a_this_desk_letters, .inl (cI, 4, .inl x.2.2.2.1)), (a_this_desk_sizes, .inl (cI, 60, .inl x.2.2.2.2.1)), (a_this_desk_starts, .inl (cI, 60, .inl x.2.2.2.2.2.1)), (a_this_draft, .inl (cI, 60, .inl x.2.2.2.2.2.2))] ++ rk_nc x.2.1 (q 0))) (by decide) (Nat.le_of_ble_eq_true rfl) ?_
  intro p e s m args below meth c A ls Q hret hname hF hP hD hA hV hR0 hn hPL hnl hl h hS
  have hx := hF.1
  have hb := hF.2.1
  have hml := hF.2.2.1
  have hown : s.vm.findClass RX9 = some m.cls := hF.2.2.2.1
  have htc := hF.2.2.2.2
  have hP : va_P D vwCl [(a_this, .inr (8, [.ref a_this_buffer, .ref a_this_draft, .ref a_this_desk, .ref a_this_archive, .ref a_this_present])), (a_this_buffer, .inl (cI, 60, .inl c_this_buffer)), (a_this_desk_letters, .inl (cI, 4, .inl c_this_desk_letters)), (a_this_desk_sizes, .inl (cI, 60, .inl c_this_desk_sizes)), (a_this_desk_starts, .inl (cI, 60, .inl c_this_desk_starts)), (a_this_draft, .inl (cI, 60, .inl c_this_draft))] s.heap := hP
  have hD : va_D A [(a_this, .inr (8, [.ref a_this_buffer, .ref a_this_draft, .ref a_this_desk, .ref a_this_archive, .ref a_this_present])), (a_this_buffer, .inl (cI, 60, .inl c_this_buffer)), (a_this_desk_letters, .inl (cI, 4, .inl c_this_desk_letters)), (a_this_desk_sizes, .inl (cI, 60, .inl c_this_desk_sizes)), (a_this_desk_starts, .inl (cI, 60, .inl c_this_desk_starts)), (a_this_draft, .inl (cI, 60, .inl c_this_draft))] := hD
  have hR0 : va_P D vwCl [(a_this_desk, .inr (2, [.ref a_this_desk_binomials, .ref a_this_desk_partitionCounts, .ref a_this_desk_treeCounts, .ref a_this_desk_sizes, .ref a_this_desk_starts, .ref a_this_desk_ranks, .ref a_this_desk_letters])), (a_this_desk_binomials, .inl (cJ, 1891, .inr (.inl c_this_desk_binomials))), (a_this_present, rk_fam F_this_present)] s.heap := hR0
  have hR := hR0
  have hl : lv_has ls 2 [(0, .ref a_this)] := hl
  unfold fX9_toWord at h
  refine lv_aload_n hx hb dX9_toWord_0 rfl (lv_at hl 0 rfl) ?_
  refine va_get (D := D) (ci := 8) (v := .ref a_this_present) (C := RX9) (T := TX9) (N := 5) hx hb htc inX9 hown hV.1 hP 0 rfl rfl 4 (by decide) (htc _ w_1_156) (fun _ h9 => h9) rfl dX9_toWord_1 ?_
  refine rk_fget_width hx hb htc hown hV.1 hR 2 rfl (htc _ w_1_135) dX9_toWord_4 ?_
  refine lv_istore_n (lv' := [(1, .int F_this_present.2.2.1), (0, .ref a_this)]) hx hb dX9_toWord_7 rfl hl (by decide) rfl (fun ls hl => ?_)
  refine lv_aload_n hx hb dX9_toWord_8 rfl (lv_at hl 1 rfl) ?_
  refine va_get (D := D) (ci := 8) (v := .ref a_this_present) (C := RX9) (T := TX9) (N := 5) hx hb htc inX9 hown hV.1 hP 0 rfl rfl 4 (by decide) (htc _ w_1_156) (fun _ h9 => h9) rfl dX9_toWord_9 ?_
  refine rk_fget_number hx hb htc hown hV.1 hR 2 rfl (htc _ w_1_120) dX9_toWord_12 ?_
  refine lv_iconst (v := 3) hx hb dX9_toWord_15 (by decide) ?_
  refine lv_icmp_ne (tgt := 25) hx hb dX9_toWord_16 (by decide) (fun hc1 => ?_) (fun hc1 => ?_)
  · have h := rk_if hc1 h
    refine lv_bipush (v := (-3)) hx hb dX9_toWord_25 (by decide) ?_
    refine W.widen (k := 1) (n := 5) (Nat.le_of_ble_eq_true rfl) (Nat.le_of_ble_eq_true rfl) ?_
    exact hret ((-3 : Int32), (none : Option Fm), c_this_buffer, c_this_desk_letters, c_this_desk_sizes, c_this_desk_starts, c_this_draft) (rk_qs []) _ _ _ _ h dX9_toWord_27 hP hD hS
  · have h := rk_nnif hc1 h
    refine lv_iload_n hx hb dX9_toWord_19 rfl (lv_at hl 0 rfl) ?_
    refine lv_bipush (v := 20) hx hb dX9_toWord_20 (by decide) ?_
    refine lv_icmp_le (tgt := 28) hx hb dX9_toWord_22 (by decide) (fun hc2 => ?_) (fun hc2 => ?_)
    · have h := rk_if hc2 h
      refine lv_aload_n hx hb dX9_toWord_28 rfl (lv_at hl 1 rfl) ?_
      obtain ⟨r_29, hc_29, h⟩ := rk_bd h
      refine rk_i (wr := [(a_this, .inr (8, [.ref a_this_buffer, .ref a_this_draft, .ref a_this_desk, .ref a_this_archive, .ref a_this_present])), (a_this_buffer, .inl (cI, 60, .inl c_this_buffer)), (a_this_desk_starts, .inl (cI, 60, .inl c_this_desk_starts)), (a_this_draft, .inl (cI, 60, .inl c_this_draft))]) (va_runV (C := RX9) (As := []) (rest := []) hF (mtX9_holdsObject l D cI cJ cO PL _ a_this a_this_buffer a_this_draft a_this_desk a_this_archive a_this_present c_this_buffer a_this_desk_binomials a_this_desk_partitionCounts a_this_desk_treeCounts a_this_desk_sizes a_this_desk_starts a_this_desk_ranks a_this_desk_letters F_this_present c_this_desk_letters c_this_desk_sizes r_29 hc_29) (cwV 0 htc (rk_gV w_2_219 w_2_221 ws_15 w_1_1 w_2_222) rfl rfl rfl (by decide +kernel) ⟨(Nat.le_of_ble_eq_true rfl), (Nat.le_of_ble_eq_true rfl)⟩) (rk_preV (va_recv hV.1 hP (ci := 8) (q0 := 0) rfl rfl) (rk_preS hP hD hS hR hn hPL hnl hV [2, 3] [(true, 0), (true, 1), (false, 0), (false, 2)] rfl (by decide) rfl (by decide))) rfl rfl hl.1 rfl (lv_room (Nat.le_of_ble_eq_true rfl)) dX9_toWord_29 ⟨(Nat.le_of_ble_eq_true rfl), (Nat.le_of_ble_eq_true rfl)⟩) hP hD hS hA hR0 hn [2, 3] [0, 1, 4, 5] rfl rfl (by decide) (by decide) (fun H locs hP hD hS hR => ?_)
      have hP : va_P D vwCl [(a_this, .inr (8, [.ref a_this_buffer, .ref a_this_draft, .ref a_this_desk, .ref a_this_archive, .ref a_this_present])), (a_this_buffer, .inl (cI, 60, .inl c_this_buffer)), (a_this_desk_starts, .inl (cI, 60, .inl c_this_desk_starts)), (a_this_draft, .inl (cI, 60, .inl c_this_draft)), (a_this_desk_letters, .inl (cI, 4, .inl r_29.2.1)), (a_this_desk_sizes, .inl (cI, 60, .inl r_29.2.2))] H := hP
      have hD : va_D A [(a_this, .inr (8, [.ref a_this_buffer, .ref a_this_draft, .ref a_this_desk, .ref a_this_archive, .ref a_this_present])), (a_this_buffer, .inl (cI, 60, .inl c_this_buffer)), (a_this_desk_starts, .inl (cI, 60, .inl c_this_desk_starts)), (a_this_draft, .inl (cI, 60, .inl c_this_draft)), (a_this_desk_letters, .inl (cI, 4, .inl r_29.2.1)), (a_this_desk_sizes, .inl (cI, 60, .inl r_29.2.2))] := hD
      refine lv_if_ne (tgt := 38) hx hb dX9_toWord_32 (by decide) (fun hc3 => ?_) (fun hc3 => ?_)
      · have h := rk_if hc3 h
        refine lv_aload_n hx hb dX9_toWord_38 rfl (lv_at hl 1 rfl) ?_
        refine va_get (D := D) (ci := 8) (v := .ref a_this_buffer) (C := RX9) (T := TX9) (N := 5) hx hb htc inX9 hown hV.1 hP 0 rfl rfl 0 (by decide) (htc _ w_1_152) (fun _ h9 => h9) rfl dX9_toWord_39 ?_
        refine lv_iload_n hx hb dX9_toWord_42 rfl (lv_at hl 0 rfl) ?_
        refine lv_aload_n hx hb dX9_toWord_43 rfl (lv_at hl 1 rfl) ?_
        refine va_get (D := D) (ci := 8) (v := .ref a_this_draft) (C := RX9) (T := TX9) (N := 5) hx hb htc inX9 hown hV.1 hP 0 rfl rfl 1 (by decide) (htc _ w_1_153) (fun _ h9 => h9) rfl dX9_toWord_44 ?_
        refine lv_aload_n hx hb dX9_toWord_47 rfl (lv_at hl 1 rfl) ?_
        refine va_get (D := D) (ci := 8) (v := .ref a_this_desk) (C := RX9) (T := TX9) (N := 5) hx hb htc inX9 hown hV.1 hP 0 rfl rfl 2 (by decide) (htc _ w_1_154) (fun _ h9 => h9) rfl dX9_toWord_48 ?_
        obtain ⟨r_51, hc_51, h⟩ := rk_bd h
        refine rk_v (wr := [(a_this, .inr (8, [.ref a_this_buffer, .ref a_this_draft, .ref a_this_desk, .ref a_this_archive, .ref a_this_present])), (a_this_buffer, .inl (cI, 60, .inl c_this_buffer)), (a_this_desk_letters, .inl (cI, 4, .inl r_29.2.1))]) (va_runSN (As := [.ref a_this_buffer, .int F_this_present.2.2.1, .ref a_this_draft, .ref a_this_desk]) (rest := []) hF (mtX7_spell l D cI cJ cO PL _ a_this_draft c_this_draft a_this_buffer c_this_buffer a_this_desk a_this_desk_binomials a_this_desk_partitionCounts a_this_desk_treeCounts a_this_desk_sizes a_this_desk_starts a_this_desk_ranks a_this_desk_letters r_29.2.2 c_this_desk_starts F_this_present.2.2.1 r_51 hc_51) ⟨va_cnB 4 htc (rk_gw w_3_118) rfl rfl rfl (hV.2.1 _ nw_3_116) (htc _ w_1_10) (by decide +kernel) ⟨(Nat.le_of_ble_eq_true rfl), (Nat.le_of_ble_eq_true rfl)⟩, htc _ w_3_117, trivial⟩ (rk_preS hP hD hS hR hn hPL hnl hV [3, 5, 2] [(true, 1), (false, 0)] rfl (by decide) rfl (by decide)) rfl rfl hl.1 rfl (lv_room (Nat.le_of_ble_eq_true rfl)) dX9_toWord_51 ⟨(Nat.le_of_ble_eq_true rfl), (Nat.le_of_ble_eq_true rfl)⟩) hP hD hS hA hR0 hn [3, 5, 2] [0, 1, 4] rfl rfl (by decide) (by decide) (fun H locs hP hD hS hR => ?_)
        have hP : va_P D vwCl [(a_this, .inr (8, [.ref a_this_buffer, .ref a_this_draft, .ref a_this_desk, .ref a_this_archive, .ref a_this_present])), (a_this_buffer, .inl (cI, 60, .inl c_this_buffer)), (a_this_desk_letters, .inl (cI, 4, .inl r_29.2.1)), (a_this_draft, .inl (cI, 60, .inl r_51.1)), (a_this_desk_sizes, .inl (cI, 60, .inl r_51.2.1)), (a_this_desk_starts, .inl (cI, 60, .inl r_51.2.2))] H := hP
        have hD : va_D A [(a_this, .inr (8, [.ref a_this_buffer, .ref a_this_draft, .ref a_this_desk, .ref a_this_archive, .ref a_this_present])), (a_this_buffer, .inl (cI, 60, .inl c_this_buffer)), (a_this_desk_letters, .inl (cI, 4, .inl r_29.2.1)), (a_this_draft, .inl (cI, 60, .inl r_51.1)), (a_this_desk_sizes, .inl (cI, 60, .inl r_51.2.1)), (a_this_desk_starts, .inl (cI, 60, .inl r_51.2.2))] := hD
        refine lv_aload_n hx hb dX9_toWord_54 rfl (lv_at hl 1 rfl) ?_
        refine lv_aload_n hx hb dX9_toWord_55 rfl (lv_at hl 1 rfl) ?_
        refine lv_iload_n hx hb dX9_toWord_56 rfl (lv_at hl 0 rfl) ?_
        refine lv_iconst (v := 1) hx hb dX9_toWord_57 (by decide) ?_
        obtain ⟨r_58, hc_58, h⟩ := rk_bd h
        refine rk_r (wr := [(a_this, .inr (8, [.ref a_this_buffer, .ref a_this_draft, .ref a_this_desk, .ref a_this_archive, .ref a_this_present])), (a_this_buffer, .inl (cI, 60, .inl c_this_buffer)), (a_this_desk_letters, .inl (cI, 4, .inl r_29.2.1)), (a_this_draft, .inl (cI, 60, .inl r_51.1)), (a_this_desk_sizes, .inl (cI, 60, .inl r_51.2.1)), (a_this_desk_starts, .inl (cI, 60, .inl r_51.2.2))]) (va_runV (C := RX9) (As := [.int F_this_present.2.2.1, .int (1 : Int32)]) (rest := [.ref a_this]) hF (mtX9_wordsOf l D cI cJ cO PL _ a_this a_this_buffer a_this_draft a_this_desk a_this_archive a_this_present a_this_desk_binomials a_this_desk_partitionCounts a_this_desk_treeCounts a_this_desk_sizes a_this_desk_starts a_this_desk_ranks a_this_desk_letters c_this_desk_binomials F_this_present.2.2.1 (1 : Int32) r_58 hc_58) (cwV 2 htc (rk_gV w_2_86 w_2_88 ws_13 w_1_1 w_2_89) rfl rfl rfl (by decide +kernel) ⟨(Nat.le_of_ble_eq_true rfl), (Nat.le_of_ble_eq_true rfl)⟩) (rk_preV (va_recv hV.1 hP (ci := 8) (q0 := 0) rfl rfl) (rk_preS hP hD hS hR hn hPL hnl hV [] [(true, 0), (false, 0), (false, 1)] rfl (by decide) rfl (by decide))) rfl rfl hl.1 rfl (lv_room (Nat.le_of_ble_eq_true rfl)) dX9_toWord_58 ⟨(Nat.le_of_ble_eq_true rfl), (Nat.le_of_ble_eq_true rfl)⟩) hP hD hS hA hR0 hn [] [0, 1, 2, 3, 4, 5] rfl rfl (by decide) (by decide) (fun q_58 H locs hP hD hS hR => ?_)
        have hP : va_P D vwCl [(a_this, .inr (8, [.ref a_this_buffer, .ref a_this_draft, .ref a_this_desk, .ref a_this_archive, .ref a_this_present])), (a_this_buffer, .inl (cI, 60, .inl c_this_buffer)), (a_this_desk_letters, .inl (cI, 4, .inl r_29.2.1)), (a_this_draft, .inl (cI, 60, .inl r_51.1)), (a_this_desk_sizes, .inl (cI, 60, .inl r_51.2.1)), (a_this_desk_starts, .inl (cI, 60, .inl r_51.2.2)), (q_58, rk_fam r_58)] H := hP
        have hD : va_D A [(a_this, .inr (8, [.ref a_this_buffer, .ref a_this_draft, .ref a_this_desk, .ref a_this_archive, .ref a_this_present])), (a_this_buffer, .inl (cI, 60, .inl c_this_buffer)), (a_this_desk_letters, .inl (cI, 4, .inl r_29.2.1)), (a_this_draft, .inl (cI, 60, .inl r_51.1)), (a_this_desk_sizes, .inl (cI, 60, .inl r_51.2.1)), (a_this_desk_starts, .inl (cI, 60, .inl r_51.2.2)), (q_58, rk_fam r_58)] := hD
        refine va_put (D := D) (ci := 8) (v := .ref q_58) (ty := (.object "EnumerativeCoder$Family")) (C := RX9) (T := TX9) (N := 5) hx hb htc inX9 tyX9 tyX9_ok nmX9 hown hV.1 hP hD hS 0 rfl rfl 4 (by decide) (htc _ w_1_156) (fun _ h9 => h9) rfl (by decide +kernel) rfl rfl (Nat.le_of_ble_eq_true rfl) dX9_toWord_61 (fun H locs hP hD hS => ?_)
        have hP : va_P D vwCl [(a_this, .inr (8, [.ref a_this_buffer, .ref a_this_draft, .ref a_this_desk, .ref a_this_archive, .ref q_58])), (a_this_buffer, .inl (cI, 60, .inl c_this_buffer)), (a_this_desk_letters, .inl (cI, 4, .inl r_29.2.1)), (a_this_draft, .inl (cI, 60, .inl r_51.1)), (a_this_desk_sizes, .inl (cI, 60, .inl r_51.2.1)), (a_this_desk_starts, .inl (cI, 60, .inl r_51.2.2)), (q_58, rk_fam r_58)] H := hP
        have hD : va_D A [(a_this, .inr (8, [.ref a_this_buffer, .ref a_this_draft, .ref a_this_desk, .ref a_this_archive, .ref q_58])), (a_this_buffer, .inl (cI, 60, .inl c_this_buffer)), (a_this_desk_letters, .inl (cI, 4, .inl r_29.2.1)), (a_this_draft, .inl (cI, 60, .inl r_51.1)), (a_this_desk_sizes, .inl (cI, 60, .inl r_51.2.1)), (a_this_desk_starts, .inl (cI, 60, .inl r_51.2.2)), (q_58, rk_fam r_58)] := hD
        have hR := rk_keep hR0 hn hS
        refine lv_aload_n hx hb dX9_toWord_64 rfl (lv_at hl 1 rfl) ?_
        obtain ⟨r_65, hc_65, h⟩ := rk_bd h
        refine rk_i (wr := [(a_this, .inr (8, [.ref a_this_buffer, .ref a_this_draft, .ref a_this_desk, .ref a_this_archive, .ref q_58])), (a_this_desk_letters, .inl (cI, 4, .inl r_29.2.1)), (a_this_draft, .inl (cI, 60, .inl r_51.1)), (a_this_desk_sizes, .inl (cI, 60, .inl r_51.2.1)), (a_this_desk_starts, .inl (cI, 60, .inl r_51.2.2)), (q_58, rk_fam r_58)]) (va_runV (C := RX9) (As := []) (rest := []) hF (mtX9_takeDraft l D cI cJ cO PL _ a_this a_this_buffer a_this_draft a_this_desk a_this_archive q_58 c_this_buffer r_51.1 r_58 r_65 hc_65) (cwV 0 htc (rk_gV w_2_57 w_2_59 ws_12 w_1_1 w_2_60) rfl rfl rfl (by decide +kernel) ⟨(Nat.le_of_ble_eq_true rfl), (Nat.le_of_ble_eq_true rfl)⟩) (rk_preV (va_recv hV.1 hP (ci := 8) (q0 := 0) rfl rfl) (rk_preS hP hD hS hR hn hPL hnl hV [1] [(true, 0), (true, 3), (true, 6)] rfl (by decide) rfl (by decide))) rfl rfl hl.1 rfl (lv_room (Nat.le_of_ble_eq_true rfl)) dX9_toWord_65 ⟨(Nat.le_of_ble_eq_true rfl), (Nat.le_of_ble_eq_true rfl)⟩) hP hD hS hA hR0 hn [1] [0, 2, 3, 4, 5, 6] rfl rfl (by decide) (by decide) (fun H locs hP hD hS hR => ?_)
        have hP : va_P D vwCl [(a_this, .inr (8, [.ref a_this_buffer, .ref a_this_draft, .ref a_this_desk, .ref a_this_archive, .ref q_58])), (a_this_desk_letters, .inl (cI, 4, .inl r_29.2.1)), (a_this_draft, .inl (cI, 60, .inl r_51.1)), (a_this_desk_sizes, .inl (cI, 60, .inl r_51.2.1)), (a_this_desk_starts, .inl (cI, 60, .inl r_51.2.2)), (q_58, rk_fam r_58), (a_this_buffer, .inl (cI, 60, .inl r_65.2))] H := hP
        have hD : va_D A [(a_this, .inr (8, [.ref a_this_buffer, .ref a_this_draft, .ref a_this_desk, .ref a_this_archive, .ref q_58])), (a_this_desk_letters, .inl (cI, 4, .inl r_29.2.1)), (a_this_draft, .inl (cI, 60, .inl r_51.1)), (a_this_desk_sizes, .inl (cI, 60, .inl r_51.2.1)), (a_this_desk_starts, .inl (cI, 60, .inl r_51.2.2)), (q_58, rk_fam r_58), (a_this_buffer, .inl (cI, 60, .inl r_65.2))] := hD
        refine lv_pop hx hb dX9_toWord_68 rfl ?_
        refine lv_iload_n hx hb dX9_toWord_69 rfl (lv_at hl 0 rfl) ?_
        refine W.widen (k := 1) (n := 5) (Nat.le_of_ble_eq_true rfl) (Nat.le_of_ble_eq_true rfl) ?_
        exact hret (F_this_present.2.2.1, (some r_58), r_65.2, r_29.2.1, r_51.2.1, r_51.2.2, r_51.1) (rk_qs [q_58]) _ _ _ _ h dX9_toWord_70 (hP.sub [0, 6, 1, 3, 4, 2, 5] rfl) (hD.sub [0, 6, 1, 3, 4, 2, 5] (by decide) rfl) hS
      · have h := rk_nnif hc3 h
        refine lv_bipush (v := (-2)) hx hb dX9_toWord_35 (by decide) ?_
        refine W.widen (k := 1) (n := 5) (Nat.le_of_ble_eq_true rfl) (Nat.le_of_ble_eq_true rfl) ?_
        exact hret ((-2 : Int32), (none : Option Fm), c_this_buffer, r_29.2.1, r_29.2.2, c_this_desk_starts, c_this_draft) (rk_qs []) _ _ _ _ h dX9_toWord_37 (hP.sub [0, 1, 4, 5, 2, 3] rfl) (hD.sub [0, 1, 4, 5, 2, 3] (by decide) rfl) hS
    · have h := rk_nif hc2 h
      refine lv_bipush (v := (-3)) hx hb dX9_toWord_25 (by decide) ?_
      refine W.widen (k := 1) (n := 5) (Nat.le_of_ble_eq_true rfl) (Nat.le_of_ble_eq_true rfl) ?_
      exact hret ((-3 : Int32), (none : Option Fm), c_this_buffer, c_this_desk_letters, c_this_desk_sizes, c_this_desk_starts, c_this_draft) (rk_qs []) _ _ _ _ h dX9_toWord_27 hP hD hS
set_option maxHeartbeats 4000000 in
set_option maxRecDepth 100000 in
theorem mtX9_toTree (l : Launch) (D : va_G) (cI cJ cO : ClassId) (PL : va_W) (sz : Nat) (a_this : Nat) (a_this_buffer : Nat) (a_this_draft : Nat) (a_this_desk : Nat) (a_this_archive : Nat) (a_this_present : Nat) (c_this_buffer : Nat → Int32) (c_this_draft : Nat → Int32) (a_this_desk_binomials : Nat) (a_this_desk_partitionCounts : Nat) (a_this_desk_treeCounts : Nat) (a_this_desk_sizes : Nat) (a_this_desk_starts : Nat) (a_this_desk_ranks : Nat) (a_this_desk_letters : Nat) (F_this_present : Fm) (c_this_desk_letters : Nat → Int32) (c_this_desk_sizes : Nat → Int32) (c_this_desk_starts : Nat → Int32) (c_this_desk_treeCounts : Nat → Int64) (r0 : Int32 × Option Fm × (Nat → Int32) × (Nat → Int32) × (Nat → Int32) × (Nat → Int32) × (Nat → Int32)) (h : fX9_toTree c_this_buffer c_this_draft F_this_present c_this_desk_letters c_this_desk_sizes c_this_desk_starts c_this_desk_treeCounts = some r0) : Met l yX9_toTree (rk_w yX9_toTree cX9_toTree 2 (some .int)) rmX9_toTree (va_Pc [.ref a_this] (rk_B D (rk_TY cI cJ cO) [(a_this, .inr (8, [.ref a_this_buffer, .ref a_this_draft, .ref a_this_desk, .ref a_this_archive, .ref a_this_present])), (a_this_buffer, .inl (cI, 60, .inl c_this_buffer)), (a_this_desk_letters, .inl (cI, 4, .inl c_this_desk_letters)), (a_this_desk_sizes, .inl (cI, 60, .inl c_this_desk_sizes)), (a_this_desk_starts, .inl (cI, 60, .inl c_this_desk_starts)), (a_this_draft, .inl (cI, 60, .inl c_this_draft))] [(a_this_desk, .inr (2, [.ref a_this_desk_binomials, .ref a_this_desk_partitionCounts, .ref a_this_desk_treeCounts, .ref a_this_desk_sizes, .ref a_this_desk_starts, .ref a_this_desk_ranks, .ref a_this_desk_letters])), (a_this_desk_treeCounts, .inl (cJ, 31, .inr (.inl c_this_desk_treeCounts))), (a_this_present, rk_fam F_this_present)] PL sz)) (rk_Qie r0.1 D (fun q => ([(a_this, .inr (8, [.ref a_this_buffer, .ref a_this_draft, .ref a_this_desk, .ref a_this_archive, .ref (rk_pn r0.2.1 a_this_present (q 0))])), (a_this_buffer, .inl (cI, 60, .inl r0.2.2.1)), (a_this_desk_letters, .inl (cI, 4, .inl r0.2.2.2.1)), (a_this_desk_sizes, .inl (cI, 60, .inl r0.2.2.2.2.1)), (a_this_desk_starts, .inl (cI, 60, .inl r0.2.2.2.2.2.1)), (a_this_draft, .inl (cI, 60, .inl r0.2.2.2.2.2.2))] ++ rk_nc r0.2.1 (q 0))) [(a_this, .inr (8, [.ref a_this_buffer, .ref a_this_draft, .ref a_this_desk, .ref a_this_archive, .ref a_this_present])), (a_this_buffer, .inl (cI, 60, .inl c_this_buffer)), (a_this_desk_letters, .inl (cI, 4, .inl c_this_desk_letters)), (a_this_desk_sizes, .inl (cI, 60, .inl c_this_desk_sizes)), (a_this_desk_starts, .inl (cI, 60, .inl c_this_desk_starts)), (a_this_draft, .inl (cI, 60, .inl c_this_draft))] sz) 1 3 (va_A [(a_this, .inr (8, [.ref a_this_buffer, .ref a_this_draft, .ref a_this_desk, .ref a_this_archive, .ref a_this_present])), (a_this_buffer, .inl (cI, 60, .inl c_this_buffer)), (a_this_desk_letters, .inl (cI, 4, .inl c_this_desk_letters)), (a_this_desk_sizes, .inl (cI, 60, .inl c_this_desk_sizes)), (a_this_desk_starts, .inl (cI, 60, .inl c_this_desk_starts)), (a_this_draft, .inl (cI, 60, .inl c_this_draft))] sz) := by
  refine rk_metie (y := yX9_toTree) (cc := cX9_toTree) (maxL := 2) (av := [.ref a_this]) (sz := sz) h (fun x : Int32 × Option Fm × (Nat → Int32) × (Nat → Int32) × (Nat → Int32) × (Nat → Int32) × (Nat → Int32) => x.1) (fun x q => ([(a_this, .inr (8, [.ref a_this_buffer, .ref a_this_draft, .ref a_this_desk, .ref a_this_archive, .ref (rk_pn x.2.1 a_this_present (q 0))])), (a_this_buffer, .inl (cI, 60, .inl x.2.2.1)), (a_this_desk_letters, .inl (cI, 4, .inl x.2.2.2.1)), (a_this_desk_sizes, .inl (cI, 60, .inl x.2.2.2.2.1)), (a_this_desk_starts, .inl (cI, 60, .inl x.2.2.2.2.2.1)), (a_this_draft, .inl (cI, 60, .inl x.2.2.2.2.2.2))] ++ rk_nc x.2.1 (q 0))) (by decide) (Nat.le_of_ble_eq_true rfl) ?_
  intro p e s m args below meth c A ls Q hret hname hF hP hD hA hV hR0 hn hPL hnl hl h hS
  have hx := hF.1
  have hb := hF.2.1
  have hml := hF.2.2.1
  have hown : s.vm.findClass RX9 = some m.cls := hF.2.2.2.1
  have htc := hF.2.2.2.2
  have hP : va_P D vwCl [(a_this, .inr (8, [.ref a_this_buffer, .ref a_this_draft, .ref a_this_desk, .ref a_this_archive, .ref a_this_present])), (a_this_buffer, .inl (cI, 60, .inl c_this_buffer)), (a_this_desk_letters, .inl (cI, 4, .inl c_this_desk_letters)), (a_this_desk_sizes, .inl (cI, 60, .inl c_this_desk_sizes)), (a_this_desk_starts, .inl (cI, 60, .inl c_this_desk_starts)), (a_this_draft, .inl (cI, 60, .inl c_this_draft))] s.heap := hP
  have hD : va_D A [(a_this, .inr (8, [.ref a_this_buffer, .ref a_this_draft, .ref a_this_desk, .ref a_this_archive, .ref a_this_present])), (a_this_buffer, .inl (cI, 60, .inl c_this_buffer)), (a_this_desk_letters, .inl (cI, 4, .inl c_this_desk_letters)), (a_this_desk_sizes, .inl (cI, 60, .inl c_this_desk_sizes)), (a_this_desk_starts, .inl (cI, 60, .inl c_this_desk_starts)), (a_this_draft, .inl (cI, 60, .inl c_this_draft))] := hD
  have hR0 : va_P D vwCl [(a_this_desk, .inr (2, [.ref a_this_desk_binomials, .ref a_this_desk_partitionCounts, .ref a_this_desk_treeCounts, .ref a_this_desk_sizes, .ref a_this_desk_starts, .ref a_this_desk_ranks, .ref a_this_desk_letters])), (a_this_desk_treeCounts, .inl (cJ, 31, .inr (.inl c_this_desk_treeCounts))), (a_this_present, rk_fam F_this_present)] s.heap := hR0
  have hR := hR0
  have hl : lv_has ls 2 [(0, .ref a_this)] := hl
  unfold fX9_toTree at h
  refine lv_aload_n hx hb dX9_toTree_0 rfl (lv_at hl 0 rfl) ?_
  refine va_get (D := D) (ci := 8) (v := .ref a_this_present) (C := RX9) (T := TX9) (N := 5) hx hb htc inX9 hown hV.1 hP 0 rfl rfl 4 (by decide) (htc _ w_1_156) (fun _ h9 => h9) rfl dX9_toTree_1 ?_
  refine rk_fget_number hx hb htc hown hV.1 hR 2 rfl (htc _ w_1_120) dX9_toTree_4 ?_
  refine lv_iconst (v := 2) hx hb dX9_toTree_7 (by decide) ?_
  refine lv_icmp_ne (tgt := 23) hx hb dX9_toTree_8 (by decide) (fun hc1 => ?_) (fun hc1 => ?_)
  · have h := rk_if hc1 h
    refine lv_bipush (v := (-3)) hx hb dX9_toTree_23 (by decide) ?_
    refine W.widen (k := 1) (n := 3) (Nat.le_of_ble_eq_true rfl) (Nat.le_of_ble_eq_true rfl) ?_
    exact hret ((-3 : Int32), (none : Option Fm), c_this_buffer, c_this_desk_letters, c_this_desk_sizes, c_this_desk_starts, c_this_draft) (rk_qs []) _ _ _ _ h dX9_toTree_25 hP hD hS
  · have h := rk_nnif hc1 h
    refine lv_aload_n hx hb dX9_toTree_11 rfl (lv_at hl 0 rfl) ?_
    refine va_get (D := D) (ci := 8) (v := .ref a_this_present) (C := RX9) (T := TX9) (N := 5) hx hb htc inX9 hown hV.1 hP 0 rfl rfl 4 (by decide) (htc _ w_1_156) (fun _ h9 => h9) rfl dX9_toTree_12 ?_
    refine lv_iconst (v := 1) hx hb dX9_toTree_15 (by decide) ?_
    obtain ⟨r_16, hc_16, h⟩ := rk_bd h
    refine rk_i (wr := [(a_this, .inr (8, [.ref a_this_buffer, .ref a_this_draft, .ref a_this_desk, .ref a_this_archive, .ref a_this_present])), (a_this_buffer, .inl (cI, 60, .inl c_this_buffer)), (a_this_desk_letters, .inl (cI, 4, .inl c_this_desk_letters)), (a_this_desk_sizes, .inl (cI, 60, .inl c_this_desk_sizes)), (a_this_desk_starts, .inl (cI, 60, .inl c_this_desk_starts)), (a_this_draft, .inl (cI, 60, .inl c_this_draft))]) (vr_setting (As := [.int (1 : Int32)]) (rest := []) hF htc hV w_2_180 rfl PL a_this_present F_this_present (1 : Int32) r_16 hc_16 (hR 2 _ rfl) (rk_preS hP hD hS hR hn hPL hnl hV [] [(false, 2)] rfl (by decide) rfl (by decide)) rfl rfl hl.1 rfl (lv_room (Nat.le_of_ble_eq_true rfl)) dX9_toTree_16 ⟨(Nat.le_of_ble_eq_true rfl), (Nat.le_of_ble_eq_true rfl)⟩ (Nat.le_of_ble_eq_true rfl) (Nat.le_of_ble_eq_true rfl) rfl) hP hD hS hA hR0 hn [] [0, 1, 2, 3, 4, 5] rfl rfl (by decide) (by decide) (fun H locs hP hD hS hR => ?_)
    have hP : va_P D vwCl [(a_this, .inr (8, [.ref a_this_buffer, .ref a_this_draft, .ref a_this_desk, .ref a_this_archive, .ref a_this_present])), (a_this_buffer, .inl (cI, 60, .inl c_this_buffer)), (a_this_desk_letters, .inl (cI, 4, .inl c_this_desk_letters)), (a_this_desk_sizes, .inl (cI, 60, .inl c_this_desk_sizes)), (a_this_desk_starts, .inl (cI, 60, .inl c_this_desk_starts)), (a_this_draft, .inl (cI, 60, .inl c_this_draft))] H := hP
    have hD : va_D A [(a_this, .inr (8, [.ref a_this_buffer, .ref a_this_draft, .ref a_this_desk, .ref a_this_archive, .ref a_this_present])), (a_this_buffer, .inl (cI, 60, .inl c_this_buffer)), (a_this_desk_letters, .inl (cI, 4, .inl c_this_desk_letters)), (a_this_desk_sizes, .inl (cI, 60, .inl c_this_desk_sizes)), (a_this_desk_starts, .inl (cI, 60, .inl c_this_desk_starts)), (a_this_draft, .inl (cI, 60, .inl c_this_draft))] := hD
    refine lv_iconst (v := 1) hx hb dX9_toTree_19 (by decide) ?_
    refine lv_icmp_eq (tgt := 26) hx hb dX9_toTree_20 (by decide) (fun hc2 => ?_) (fun hc2 => ?_)
    · have h := rk_if hc2 h
      refine lv_aload_n hx hb dX9_toTree_26 rfl (lv_at hl 0 rfl) ?_
      obtain ⟨r_27, hc_27, h⟩ := rk_bd h
      refine rk_i (wr := [(a_this, .inr (8, [.ref a_this_buffer, .ref a_this_draft, .ref a_this_desk, .ref a_this_archive, .ref a_this_present])), (a_this_buffer, .inl (cI, 60, .inl c_this_buffer)), (a_this_desk_starts, .inl (cI, 60, .inl c_this_desk_starts)), (a_this_draft, .inl (cI, 60, .inl c_this_draft))]) (va_runV (C := RX9) (As := []) (rest := []) hF (mtX9_holdsObject l D cI cJ cO PL _ a_this a_this_buffer a_this_draft a_this_desk a_this_archive a_this_present c_this_buffer a_this_desk_binomials a_this_desk_partitionCounts a_this_desk_treeCounts a_this_desk_sizes a_this_desk_starts a_this_desk_ranks a_this_desk_letters F_this_present c_this_desk_letters c_this_desk_sizes r_27 hc_27) (cwV 0 htc (rk_gV w_2_219 w_2_221 ws_15 w_1_1 w_2_222) rfl rfl rfl (by decide +kernel) ⟨(Nat.le_of_ble_eq_true rfl), (Nat.le_of_ble_eq_true rfl)⟩) (rk_preV (va_recv hV.1 hP (ci := 8) (q0 := 0) rfl rfl) (rk_preS hP hD hS hR hn hPL hnl hV [2, 3] [(true, 0), (true, 1), (false, 0), (false, 2)] rfl (by decide) rfl (by decide))) rfl rfl hl.1 rfl (lv_room (Nat.le_of_ble_eq_true rfl)) dX9_toTree_27 ⟨(Nat.le_of_ble_eq_true rfl), (Nat.le_of_ble_eq_true rfl)⟩) hP hD hS hA hR0 hn [2, 3] [0, 1, 4, 5] rfl rfl (by decide) (by decide) (fun H locs hP hD hS hR => ?_)
      have hP : va_P D vwCl [(a_this, .inr (8, [.ref a_this_buffer, .ref a_this_draft, .ref a_this_desk, .ref a_this_archive, .ref a_this_present])), (a_this_buffer, .inl (cI, 60, .inl c_this_buffer)), (a_this_desk_starts, .inl (cI, 60, .inl c_this_desk_starts)), (a_this_draft, .inl (cI, 60, .inl c_this_draft)), (a_this_desk_letters, .inl (cI, 4, .inl r_27.2.1)), (a_this_desk_sizes, .inl (cI, 60, .inl r_27.2.2))] H := hP
      have hD : va_D A [(a_this, .inr (8, [.ref a_this_buffer, .ref a_this_draft, .ref a_this_desk, .ref a_this_archive, .ref a_this_present])), (a_this_buffer, .inl (cI, 60, .inl c_this_buffer)), (a_this_desk_starts, .inl (cI, 60, .inl c_this_desk_starts)), (a_this_draft, .inl (cI, 60, .inl c_this_draft)), (a_this_desk_letters, .inl (cI, 4, .inl r_27.2.1)), (a_this_desk_sizes, .inl (cI, 60, .inl r_27.2.2))] := hD
      refine lv_if_ne (tgt := 36) hx hb dX9_toTree_30 (by decide) (fun hc3 => ?_) (fun hc3 => ?_)
      · have h := rk_if hc3 h
        refine lv_aload_n hx hb dX9_toTree_36 rfl (lv_at hl 0 rfl) ?_
        refine va_get (D := D) (ci := 8) (v := .ref a_this_present) (C := RX9) (T := TX9) (N := 5) hx hb htc inX9 hown hV.1 hP 0 rfl rfl 4 (by decide) (htc _ w_1_156) (fun _ h9 => h9) rfl dX9_toTree_37 ?_
        refine lv_iconst (v := 0) hx hb dX9_toTree_40 (by decide) ?_
        obtain ⟨r_41, hc_41, h⟩ := rk_bd h
        refine rk_i (wr := [(a_this, .inr (8, [.ref a_this_buffer, .ref a_this_draft, .ref a_this_desk, .ref a_this_archive, .ref a_this_present])), (a_this_buffer, .inl (cI, 60, .inl c_this_buffer)), (a_this_desk_starts, .inl (cI, 60, .inl c_this_desk_starts)), (a_this_draft, .inl (cI, 60, .inl c_this_draft)), (a_this_desk_letters, .inl (cI, 4, .inl r_27.2.1)), (a_this_desk_sizes, .inl (cI, 60, .inl r_27.2.2))]) (vr_setting (As := [.int (0 : Int32)]) (rest := []) hF htc hV w_2_180 rfl PL a_this_present F_this_present (0 : Int32) r_41 hc_41 (hR 2 _ rfl) (rk_preS hP hD hS hR hn hPL hnl hV [] [(false, 2)] rfl (by decide) rfl (by decide)) rfl rfl hl.1 rfl (lv_room (Nat.le_of_ble_eq_true rfl)) dX9_toTree_41 ⟨(Nat.le_of_ble_eq_true rfl), (Nat.le_of_ble_eq_true rfl)⟩ (Nat.le_of_ble_eq_true rfl) (Nat.le_of_ble_eq_true rfl) rfl) hP hD hS hA hR0 hn [] [0, 1, 2, 3, 4, 5] rfl rfl (by decide) (by decide) (fun H locs hP hD hS hR => ?_)
        have hP : va_P D vwCl [(a_this, .inr (8, [.ref a_this_buffer, .ref a_this_draft, .ref a_this_desk, .ref a_this_archive, .ref a_this_present])), (a_this_buffer, .inl (cI, 60, .inl c_this_buffer)), (a_this_desk_starts, .inl (cI, 60, .inl c_this_desk_starts)), (a_this_draft, .inl (cI, 60, .inl c_this_draft)), (a_this_desk_letters, .inl (cI, 4, .inl r_27.2.1)), (a_this_desk_sizes, .inl (cI, 60, .inl r_27.2.2))] H := hP
        have hD : va_D A [(a_this, .inr (8, [.ref a_this_buffer, .ref a_this_draft, .ref a_this_desk, .ref a_this_archive, .ref a_this_present])), (a_this_buffer, .inl (cI, 60, .inl c_this_buffer)), (a_this_desk_starts, .inl (cI, 60, .inl c_this_desk_starts)), (a_this_draft, .inl (cI, 60, .inl c_this_draft)), (a_this_desk_letters, .inl (cI, 4, .inl r_27.2.1)), (a_this_desk_sizes, .inl (cI, 60, .inl r_27.2.2))] := hD
        refine lv_istore_n (lv' := [(1, .int r_41), (0, .ref a_this)]) hx hb dX9_toTree_44 rfl hl (by decide) rfl (fun ls hl => ?_)
        refine lv_aload_n hx hb dX9_toTree_45 rfl (lv_at hl 1 rfl) ?_
        refine va_get (D := D) (ci := 8) (v := .ref a_this_buffer) (C := RX9) (T := TX9) (N := 5) hx hb htc inX9 hown hV.1 hP 0 rfl rfl 0 (by decide) (htc _ w_1_152) (fun _ h9 => h9) rfl dX9_toTree_46 ?_
        refine lv_iload_n hx hb dX9_toTree_49 rfl (lv_at hl 0 rfl) ?_
        refine lv_aload_n hx hb dX9_toTree_50 rfl (lv_at hl 1 rfl) ?_
        refine va_get (D := D) (ci := 8) (v := .ref a_this_draft) (C := RX9) (T := TX9) (N := 5) hx hb htc inX9 hown hV.1 hP 0 rfl rfl 1 (by decide) (htc _ w_1_153) (fun _ h9 => h9) rfl dX9_toTree_51 ?_
        refine lv_aload_n hx hb dX9_toTree_54 rfl (lv_at hl 1 rfl) ?_
        refine va_get (D := D) (ci := 8) (v := .ref a_this_desk) (C := RX9) (T := TX9) (N := 5) hx hb htc inX9 hown hV.1 hP 0 rfl rfl 2 (by decide) (htc _ w_1_154) (fun _ h9 => h9) rfl dX9_toTree_55 ?_
        obtain ⟨r_58, hc_58, h⟩ := rk_bd h
        refine rk_v (wr := [(a_this, .inr (8, [.ref a_this_buffer, .ref a_this_draft, .ref a_this_desk, .ref a_this_archive, .ref a_this_present])), (a_this_buffer, .inl (cI, 60, .inl c_this_buffer)), (a_this_desk_letters, .inl (cI, 4, .inl r_27.2.1)), (a_this_desk_sizes, .inl (cI, 60, .inl r_27.2.2))]) (va_runSN (As := [.ref a_this_buffer, .int r_41, .ref a_this_draft, .ref a_this_desk]) (rest := []) hF (mtX8_grow l D cI cJ cO PL _ a_this_draft c_this_draft a_this_buffer c_this_buffer a_this_desk a_this_desk_binomials a_this_desk_partitionCounts a_this_desk_treeCounts a_this_desk_sizes a_this_desk_starts a_this_desk_ranks a_this_desk_letters c_this_desk_starts r_41 r_58 hc_58) ⟨va_cnB 4 htc (rk_gw w_3_125) rfl rfl rfl (hV.2.1 _ nw_3_123) (htc _ w_1_11) (by decide +kernel) ⟨(Nat.le_of_ble_eq_true rfl), (Nat.le_of_ble_eq_true rfl)⟩, htc _ w_3_124, trivial⟩ (rk_preS hP hD hS hR hn hPL hnl hV [3, 2] [(true, 1), (false, 0)] rfl (by decide) rfl (by decide)) rfl rfl hl.1 rfl (lv_room (Nat.le_of_ble_eq_true rfl)) dX9_toTree_58 ⟨(Nat.le_of_ble_eq_true rfl), (Nat.le_of_ble_eq_true rfl)⟩) hP hD hS hA hR0 hn [3, 2] [0, 1, 4, 5] rfl rfl (by decide) (by decide) (fun H locs hP hD hS hR => ?_)
        have hP : va_P D vwCl [(a_this, .inr (8, [.ref a_this_buffer, .ref a_this_draft, .ref a_this_desk, .ref a_this_archive, .ref a_this_present])), (a_this_buffer, .inl (cI, 60, .inl c_this_buffer)), (a_this_desk_letters, .inl (cI, 4, .inl r_27.2.1)), (a_this_desk_sizes, .inl (cI, 60, .inl r_27.2.2)), (a_this_draft, .inl (cI, 60, .inl r_58.1)), (a_this_desk_starts, .inl (cI, 60, .inl r_58.2))] H := hP
        have hD : va_D A [(a_this, .inr (8, [.ref a_this_buffer, .ref a_this_draft, .ref a_this_desk, .ref a_this_archive, .ref a_this_present])), (a_this_buffer, .inl (cI, 60, .inl c_this_buffer)), (a_this_desk_letters, .inl (cI, 4, .inl r_27.2.1)), (a_this_desk_sizes, .inl (cI, 60, .inl r_27.2.2)), (a_this_draft, .inl (cI, 60, .inl r_58.1)), (a_this_desk_starts, .inl (cI, 60, .inl r_58.2))] := hD
        refine lv_aload_n hx hb dX9_toTree_61 rfl (lv_at hl 1 rfl) ?_
        refine lv_aload_n hx hb dX9_toTree_62 rfl (lv_at hl 1 rfl) ?_
        refine lv_iload_n hx hb dX9_toTree_63 rfl (lv_at hl 0 rfl) ?_
        obtain ⟨r_64, hc_64, h⟩ := rk_bd h
        refine rk_r (wr := [(a_this, .inr (8, [.ref a_this_buffer, .ref a_this_draft, .ref a_this_desk, .ref a_this_archive, .ref a_this_present])), (a_this_buffer, .inl (cI, 60, .inl c_this_buffer)), (a_this_desk_letters, .inl (cI, 4, .inl r_27.2.1)), (a_this_desk_sizes, .inl (cI, 60, .inl r_27.2.2)), (a_this_draft, .inl (cI, 60, .inl r_58.1)), (a_this_desk_starts, .inl (cI, 60, .inl r_58.2))]) (va_runV (C := RX9) (As := [.int r_41]) (rest := [.ref a_this]) hF (mtX9_treesOf l D cI cJ cO PL _ a_this a_this_buffer a_this_draft a_this_desk a_this_archive a_this_present a_this_desk_binomials a_this_desk_partitionCounts a_this_desk_treeCounts a_this_desk_sizes a_this_desk_starts a_this_desk_ranks a_this_desk_letters c_this_desk_treeCounts r_41 r_64 hc_64) (cwV 1 htc (rk_gV w_2_110 w_2_112 ws_14 w_1_1 w_2_113) rfl rfl rfl (by decide +kernel) ⟨(Nat.le_of_ble_eq_true rfl), (Nat.le_of_ble_eq_true rfl)⟩) (rk_preV (va_recv hV.1 hP (ci := 8) (q0 := 0) rfl rfl) (rk_preS hP hD hS hR hn hPL hnl hV [] [(true, 0), (false, 0), (false, 1)] rfl (by decide) rfl (by decide))) rfl rfl hl.1 rfl (lv_room (Nat.le_of_ble_eq_true rfl)) dX9_toTree_64 ⟨(Nat.le_of_ble_eq_true rfl), (Nat.le_of_ble_eq_true rfl)⟩) hP hD hS hA hR0 hn [] [0, 1, 2, 3, 4, 5] rfl rfl (by decide) (by decide) (fun q_64 H locs hP hD hS hR => ?_)
        have hP : va_P D vwCl [(a_this, .inr (8, [.ref a_this_buffer, .ref a_this_draft, .ref a_this_desk, .ref a_this_archive, .ref a_this_present])), (a_this_buffer, .inl (cI, 60, .inl c_this_buffer)), (a_this_desk_letters, .inl (cI, 4, .inl r_27.2.1)), (a_this_desk_sizes, .inl (cI, 60, .inl r_27.2.2)), (a_this_draft, .inl (cI, 60, .inl r_58.1)), (a_this_desk_starts, .inl (cI, 60, .inl r_58.2)), (q_64, rk_fam r_64)] H := hP
        have hD : va_D A [(a_this, .inr (8, [.ref a_this_buffer, .ref a_this_draft, .ref a_this_desk, .ref a_this_archive, .ref a_this_present])), (a_this_buffer, .inl (cI, 60, .inl c_this_buffer)), (a_this_desk_letters, .inl (cI, 4, .inl r_27.2.1)), (a_this_desk_sizes, .inl (cI, 60, .inl r_27.2.2)), (a_this_draft, .inl (cI, 60, .inl r_58.1)), (a_this_desk_starts, .inl (cI, 60, .inl r_58.2)), (q_64, rk_fam r_64)] := hD
        refine va_put (D := D) (ci := 8) (v := .ref q_64) (ty := (.object "EnumerativeCoder$Family")) (C := RX9) (T := TX9) (N := 5) hx hb htc inX9 tyX9 tyX9_ok nmX9 hown hV.1 hP hD hS 0 rfl rfl 4 (by decide) (htc _ w_1_156) (fun _ h9 => h9) rfl (by decide +kernel) rfl rfl (Nat.le_of_ble_eq_true rfl) dX9_toTree_67 (fun H locs hP hD hS => ?_)
        have hP : va_P D vwCl [(a_this, .inr (8, [.ref a_this_buffer, .ref a_this_draft, .ref a_this_desk, .ref a_this_archive, .ref q_64])), (a_this_buffer, .inl (cI, 60, .inl c_this_buffer)), (a_this_desk_letters, .inl (cI, 4, .inl r_27.2.1)), (a_this_desk_sizes, .inl (cI, 60, .inl r_27.2.2)), (a_this_draft, .inl (cI, 60, .inl r_58.1)), (a_this_desk_starts, .inl (cI, 60, .inl r_58.2)), (q_64, rk_fam r_64)] H := hP
        have hD : va_D A [(a_this, .inr (8, [.ref a_this_buffer, .ref a_this_draft, .ref a_this_desk, .ref a_this_archive, .ref q_64])), (a_this_buffer, .inl (cI, 60, .inl c_this_buffer)), (a_this_desk_letters, .inl (cI, 4, .inl r_27.2.1)), (a_this_desk_sizes, .inl (cI, 60, .inl r_27.2.2)), (a_this_draft, .inl (cI, 60, .inl r_58.1)), (a_this_desk_starts, .inl (cI, 60, .inl r_58.2)), (q_64, rk_fam r_64)] := hD
        have hR := rk_keep hR0 hn hS
        refine lv_aload_n hx hb dX9_toTree_70 rfl (lv_at hl 1 rfl) ?_
        obtain ⟨r_71, hc_71, h⟩ := rk_bd h
        refine rk_i (wr := [(a_this, .inr (8, [.ref a_this_buffer, .ref a_this_draft, .ref a_this_desk, .ref a_this_archive, .ref q_64])), (a_this_desk_letters, .inl (cI, 4, .inl r_27.2.1)), (a_this_desk_sizes, .inl (cI, 60, .inl r_27.2.2)), (a_this_draft, .inl (cI, 60, .inl r_58.1)), (a_this_desk_starts, .inl (cI, 60, .inl r_58.2)), (q_64, rk_fam r_64)]) (va_runV (C := RX9) (As := []) (rest := []) hF (mtX9_takeDraft l D cI cJ cO PL _ a_this a_this_buffer a_this_draft a_this_desk a_this_archive q_64 c_this_buffer r_58.1 r_64 r_71 hc_71) (cwV 0 htc (rk_gV w_2_57 w_2_59 ws_12 w_1_1 w_2_60) rfl rfl rfl (by decide +kernel) ⟨(Nat.le_of_ble_eq_true rfl), (Nat.le_of_ble_eq_true rfl)⟩) (rk_preV (va_recv hV.1 hP (ci := 8) (q0 := 0) rfl rfl) (rk_preS hP hD hS hR hn hPL hnl hV [1] [(true, 0), (true, 4), (true, 6)] rfl (by decide) rfl (by decide))) rfl rfl hl.1 rfl (lv_room (Nat.le_of_ble_eq_true rfl)) dX9_toTree_71 ⟨(Nat.le_of_ble_eq_true rfl), (Nat.le_of_ble_eq_true rfl)⟩) hP hD hS hA hR0 hn [1] [0, 2, 3, 4, 5, 6] rfl rfl (by decide) (by decide) (fun H locs hP hD hS hR => ?_)
        have hP : va_P D vwCl [(a_this, .inr (8, [.ref a_this_buffer, .ref a_this_draft, .ref a_this_desk, .ref a_this_archive, .ref q_64])), (a_this_desk_letters, .inl (cI, 4, .inl r_27.2.1)), (a_this_desk_sizes, .inl (cI, 60, .inl r_27.2.2)), (a_this_draft, .inl (cI, 60, .inl r_58.1)), (a_this_desk_starts, .inl (cI, 60, .inl r_58.2)), (q_64, rk_fam r_64), (a_this_buffer, .inl (cI, 60, .inl r_71.2))] H := hP
        have hD : va_D A [(a_this, .inr (8, [.ref a_this_buffer, .ref a_this_draft, .ref a_this_desk, .ref a_this_archive, .ref q_64])), (a_this_desk_letters, .inl (cI, 4, .inl r_27.2.1)), (a_this_desk_sizes, .inl (cI, 60, .inl r_27.2.2)), (a_this_draft, .inl (cI, 60, .inl r_58.1)), (a_this_desk_starts, .inl (cI, 60, .inl r_58.2)), (q_64, rk_fam r_64), (a_this_buffer, .inl (cI, 60, .inl r_71.2))] := hD
        refine lv_pop hx hb dX9_toTree_74 rfl ?_
        refine lv_iload_n hx hb dX9_toTree_75 rfl (lv_at hl 0 rfl) ?_
        refine W.widen (k := 1) (n := 3) (Nat.le_of_ble_eq_true rfl) (Nat.le_of_ble_eq_true rfl) ?_
        exact hret (r_41, (some r_64), r_71.2, r_27.2.1, r_27.2.2, r_58.2, r_58.1) (rk_qs [q_64]) _ _ _ _ h dX9_toTree_76 (hP.sub [0, 6, 1, 2, 4, 3, 5] rfl) (hD.sub [0, 6, 1, 2, 4, 3, 5] (by decide) rfl) hS
      · have h := rk_nnif hc3 h
        refine lv_bipush (v := (-2)) hx hb dX9_toTree_33 (by decide) ?_
        refine W.widen (k := 1) (n := 3) (Nat.le_of_ble_eq_true rfl) (Nat.le_of_ble_eq_true rfl) ?_
        exact hret ((-2 : Int32), (none : Option Fm), c_this_buffer, r_27.2.1, r_27.2.2, c_this_desk_starts, c_this_draft) (rk_qs []) _ _ _ _ h dX9_toTree_35 (hP.sub [0, 1, 4, 5, 2, 3] rfl) (hD.sub [0, 1, 4, 5, 2, 3] (by decide) rfl) hS
    · have h := rk_nif hc2 h
      refine lv_bipush (v := (-3)) hx hb dX9_toTree_23 (by decide) ?_
      refine W.widen (k := 1) (n := 3) (Nat.le_of_ble_eq_true rfl) (Nat.le_of_ble_eq_true rfl) ?_
      exact hret ((-3 : Int32), (none : Option Fm), c_this_buffer, c_this_desk_letters, c_this_desk_sizes, c_this_desk_starts, c_this_draft) (rk_qs []) _ _ _ _ h dX9_toTree_25 hP hD hS
