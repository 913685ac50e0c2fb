set_option maxHeartbeats 4000000 in
set_option maxRecDepth 100000 in
theorem c_X5_bias (l : Launch) (D : va_G) (cI cS : ClassId) (X : XP) (F : Nat) (h_x h_x_now h_x_now_book h_x_text h_x_text_signs h_x_trial h_x_trial_state h_x_trial_state_book h_x_ways h_x_ways_stock h_x_ways_weight h_x_ways_known h_x_ways_found h_x_measured h_x_pairCounts h_past : Nat) (x_pastStates : Int32) (x_now_row : Int32) (x_now_table : Int32) (x_now_kept : Int32) (x_now_book : Nat → Int32) (x_text_length : Int32) (x_text_word : Int32) (x_text_kind : Int32) (x_text_number : Int32) (x_text_row : Int32) (x_text_reached : Int32) (x_text_broken : Int32) (x_text_signs : Nat → Int32) (x_trial_orders : Int32) (x_trial_position : Int32) (x_trial_reason : Int32) (x_trial_cause : Int32) (x_trial_state_row : Int32) (x_trial_state_table : Int32) (x_trial_state_kept : Int32) (x_trial_state_book : Nat → Int32) (x_ways_measure : Bool) (x_ways_values : Int32) (x_ways_row : Int32) (x_ways_rowCodes : Int32) (x_ways_table : Int32) (x_ways_length : Int32) (x_ways_full : Int32) (x_ways_pairs : Int32) (x_ways_codes : Int32) (x_ways_stock : Nat → Int32) (x_ways_weight : Nat → Int32) (x_ways_known : Nat → Int32) (x_ways_found : Nat → Int32) (x_measured_which : Int32) (x_measured_x : Int32) (x_measured_y : Int32) (x_measured_row : Int32) (x_measured_table : Int32) (x_pairCounts : Nat → Int32) (a1 : Int32) (a2 : Int32) (a3 : Int32) {res : Int32} (h : f_X5_bias F x_now_row a1 a2 a3 = some res) : CtI l D cI cS X yX5_bias cX5_bias 7 (some .int) 3 [.ref h_x, .int a1, .int a2, .int a3] [(h_x, .inr (5, [.ref h_x_now, .ref h_past, .int x_pastStates, .ref h_x_text, .ref h_x_trial, .ref h_x_ways, .ref h_x_measured, .ref h_x_pairCounts])), (h_x_now, .inr (1, [.int x_now_row, .int x_now_table, .int x_now_kept, .ref h_x_now_book])), (h_x_now_book, .inl (cI, 8, .inl x_now_book)), (h_x_text, .inr (2, [.ref h_x_text_signs, .int x_text_length, .int x_text_word, .int x_text_kind, .int x_text_number, .int x_text_row, .int x_text_reached, .int x_text_broken])), (h_x_text_signs, .inl (cI, 60, .inl x_text_signs)), (h_x_trial, .inr (3, [.ref h_x_trial_state, .int x_trial_orders, .int x_trial_position, .int x_trial_reason, .int x_trial_cause])), (h_x_trial_state, .inr (1, [.int x_trial_state_row, .int x_trial_state_table, .int x_trial_state_kept, .ref h_x_trial_state_book])), (h_x_trial_state_book, .inl (cI, 8, .inl x_trial_state_book)), (h_x_ways, .inr (4, [.ref h_x_ways_stock, .ref h_x_ways_weight, .ref h_x_ways_known, .ref h_x_ways_found, nv x_ways_measure h_x_measured, .int x_ways_values, .int x_ways_row, .int x_ways_rowCodes, .int x_ways_table, .int x_ways_length, .int x_ways_full, .int x_ways_pairs, .int x_ways_codes])), (h_x_ways_stock, .inl (cI, 16, .inl x_ways_stock)), (h_x_ways_weight, .inl (cI, 16, .inl x_ways_weight)), (h_x_ways_known, .inl (cI, 577, .inl x_ways_known)), (h_x_ways_found, .inl (cI, 6347, .inl x_ways_found)), (h_x_measured, .inr (0, [.int x_measured_which, .int x_measured_x, .int x_measured_y, .int x_measured_row, .int x_measured_table])), (h_x_pairCounts, .inl (cI, 16, .inl x_pairCounts))] (PoI res [(h_x, .inr (5, [.ref h_x_now, .ref h_past, .int x_pastStates, .ref h_x_text, .ref h_x_trial, .ref h_x_ways, .ref h_x_measured, .ref h_x_pairCounts])), (h_x_now, .inr (1, [.int x_now_row, .int x_now_table, .int x_now_kept, .ref h_x_now_book])), (h_x_now_book, .inl (cI, 8, .inl x_now_book)), (h_x_text, .inr (2, [.ref h_x_text_signs, .int x_text_length, .int x_text_word, .int x_text_kind, .int x_text_number, .int x_text_row, .int x_text_reached, .int x_text_broken])), (h_x_text_signs, .inl (cI, 60, .inl x_text_signs)), (h_x_trial, .inr (3, [.ref h_x_trial_state, .int x_trial_orders, .int x_trial_position, .int x_trial_reason, .int x_trial_cause])), (h_x_trial_state, .inr (1, [.int x_trial_state_row, .int x_trial_state_table, .int x_trial_state_kept, .ref h_x_trial_state_book])), (h_x_trial_state_book, .inl (cI, 8, .inl x_trial_state_book)), (h_x_ways, .inr (4, [.ref h_x_ways_stock, .ref h_x_ways_weight, .ref h_x_ways_known, .ref h_x_ways_found, nv x_ways_measure h_x_measured, .int x_ways_values, .int x_ways_row, .int x_ways_rowCodes, .int x_ways_table, .int x_ways_length, .int x_ways_full, .int x_ways_pairs, .int x_ways_codes])), (h_x_ways_stock, .inl (cI, 16, .inl x_ways_stock)), (h_x_ways_weight, .inl (cI, 16, .inl x_ways_weight)), (h_x_ways_known, .inl (cI, 577, .inl x_ways_known)), (h_x_ways_found, .inl (cI, 6347, .inl x_ways_found)), (h_x_measured, .inr (0, [.int x_measured_which, .int x_measured_x, .int x_measured_y, .int x_measured_row, .int x_measured_table])), (h_x_pairCounts, .inl (cI, 16, .inl x_pairCounts))]) := by
  refine CtI.of (by decide +kernel) rfl ?_
  intro p e s m below meth c A hc
  refine G_lv (lv' := [(0, .ref h_x), (1, .int a1), (2, .int a2), (3, .int a3)]) (lsame_cons rfl (lsame_cons rfl (lsame_cons rfl (lsame_cons rfl lsame_nil)))) ?_
  unfold f_X5_bias at h
  refine G_iload_n hc dX5_bias_0 rfl ?_
  refine G_iconst (v := 3) hc dX5_bias_1 (by decide) ?_
  obtain ⟨z1, hu2, h⟩ := ob h
  refine G_callSI (ws2 := [(h_x, .inr (5, [.ref h_x_now, .ref h_past, .int x_pastStates, .ref h_x_text, .ref h_x_trial, .ref h_x_ways, .ref h_x_measured, .ref h_x_pairCounts])), (h_x_now, .inr (1, [.int x_now_row, .int x_now_table, .int x_now_kept, .ref h_x_now_book])), (h_x_now_book, .inl (cI, 8, .inl x_now_book)), (h_x_text, .inr (2, [.ref h_x_text_signs, .int x_text_length, .int x_text_word, .int x_text_kind, .int x_text_number, .int x_text_row, .int x_text_reached, .int x_text_broken])), (h_x_text_signs, .inl (cI, 60, .inl x_text_signs)), (h_x_trial, .inr (3, [.ref h_x_trial_state, .int x_trial_orders, .int x_trial_position, .int x_trial_reason, .int x_trial_cause])), (h_x_trial_state, .inr (1, [.int x_trial_state_row, .int x_trial_state_table, .int x_trial_state_kept, .ref h_x_trial_state_book])), (h_x_trial_state_book, .inl (cI, 8, .inl x_trial_state_book)), (h_x_ways, .inr (4, [.ref h_x_ways_stock, .ref h_x_ways_weight, .ref h_x_ways_known, .ref h_x_ways_found, nv x_ways_measure h_x_measured, .int x_ways_values, .int x_ways_row, .int x_ways_rowCodes, .int x_ways_table, .int x_ways_length, .int x_ways_full, .int x_ways_pairs, .int x_ways_codes])), (h_x_ways_stock, .inl (cI, 16, .inl x_ways_stock)), (h_x_ways_weight, .inl (cI, 16, .inl x_ways_weight)), (h_x_ways_known, .inl (cI, 577, .inl x_ways_known)), (h_x_ways_found, .inl (cI, 6347, .inl x_ways_found)), (h_x_measured, .inr (0, [.int x_measured_which, .int x_measured_x, .int x_measured_y, .int x_measured_row, .int x_measured_table])), (h_x_pairCounts, .inl (cI, 16, .inl x_pairCounts))]) hc m_X5_52 (c_X5_within l D cI cS X F a1 (3 : Int32) hu2) [] (rmok_of (Nat.le_of_ble_eq_true rfl)) ⟨Nat.zero_le _, Nat.zero_le _⟩ rfl rfl rfl rfl rfl ⟨rfl, rfl, rfl⟩ dX5_bias_2 ?_
  refine G_if_eq (tgt := 24) hc dX5_bias_5 (by decide) (fun c28 => ?_) (fun c28 => ?_)
  · have h := ip h c28
    refine G_ldc (v := -1000001) hc k_X5_56 dX5_bias_24 ?_
    have h := Option.some.inj h
    subst h
    exact G_ireturn hc ⟨rfl, rfl⟩ dX5_bias_26
  · have h := inn h c28
    refine G_iload_n hc dX5_bias_8 rfl ?_
    refine G_iconst (v := 3) hc dX5_bias_9 (by decide) ?_
    obtain ⟨z3, hu4, h⟩ := ob h
    refine G_callSI (ws2 := [(h_x, .inr (5, [.ref h_x_now, .ref h_past, .int x_pastStates, .ref h_x_text, .ref h_x_trial, .ref h_x_ways, .ref h_x_measured, .ref h_x_pairCounts])), (h_x_now, .inr (1, [.int x_now_row, .int x_now_table, .int x_now_kept, .ref h_x_now_book])), (h_x_now_book, .inl (cI, 8, .inl x_now_book)), (h_x_text, .inr (2, [.ref h_x_text_signs, .int x_text_length, .int x_text_word, .int x_text_kind, .int x_text_number, .int x_text_row, .int x_text_reached, .int x_text_broken])), (h_x_text_signs, .inl (cI, 60, .inl x_text_signs)), (h_x_trial, .inr (3, [.ref h_x_trial_state, .int x_trial_orders, .int x_trial_position, .int x_trial_reason, .int x_trial_cause])), (h_x_trial_state, .inr (1, [.int x_trial_state_row, .int x_trial_state_table, .int x_trial_state_kept, .ref h_x_trial_state_book])), (h_x_trial_state_book, .inl (cI, 8, .inl x_trial_state_book)), (h_x_ways, .inr (4, [.ref h_x_ways_stock, .ref h_x_ways_weight, .ref h_x_ways_known, .ref h_x_ways_found, nv x_ways_measure h_x_measured, .int x_ways_values, .int x_ways_row, .int x_ways_rowCodes, .int x_ways_table, .int x_ways_length, .int x_ways_full, .int x_ways_pairs, .int x_ways_codes])), (h_x_ways_stock, .inl (cI, 16, .inl x_ways_stock)), (h_x_ways_weight, .inl (cI, 16, .inl x_ways_weight)), (h_x_ways_known, .inl (cI, 577, .inl x_ways_known)), (h_x_ways_found, .inl (cI, 6347, .inl x_ways_found)), (h_x_measured, .inr (0, [.int x_measured_which, .int x_measured_x, .int x_measured_y, .int x_measured_row, .int x_measured_table])), (h_x_pairCounts, .inl (cI, 16, .inl x_pairCounts))]) hc m_X5_52 (c_X5_within l D cI cS X F a2 (3 : Int32) hu4) [] (rmok_of (Nat.le_of_ble_eq_true rfl)) ⟨Nat.zero_le _, Nat.zero_le _⟩ rfl rfl rfl rfl rfl ⟨rfl, rfl, rfl⟩ dX5_bias_10 ?_
    refine G_if_eq (tgt := 24) hc dX5_bias_13 (by decide) (fun c27 => ?_) (fun c27 => ?_)
    · have h := ip h c27
      refine G_ldc (v := -1000001) hc k_X5_56 dX5_bias_24 ?_
      have h := Option.some.inj h
      subst h
      exact G_ireturn hc ⟨rfl, rfl⟩ dX5_bias_26
    · have h := inn h c27
      refine G_iload_n hc dX5_bias_16 rfl ?_
      refine G_iconst (v := 1) hc dX5_bias_17 (by decide) ?_
      obtain ⟨z5, hu6, h⟩ := ob h
      refine G_callSI (ws2 := [(h_x, .inr (5, [.ref h_x_now, .ref h_past, .int x_pastStates, .ref h_x_text, .ref h_x_trial, .ref h_x_ways, .ref h_x_measured, .ref h_x_pairCounts])), (h_x_now, .inr (1, [.int x_now_row, .int x_now_table, .int x_now_kept, .ref h_x_now_book])), (h_x_now_book, .inl (cI, 8, .inl x_now_book)), (h_x_text, .inr (2, [.ref h_x_text_signs, .int x_text_length, .int x_text_word, .int x_text_kind, .int x_text_number, .int x_text_row, .int x_text_reached, .int x_text_broken])), (h_x_text_signs, .inl (cI, 60, .inl x_text_signs)), (h_x_trial, .inr (3, [.ref h_x_trial_state, .int x_trial_orders, .int x_trial_position, .int x_trial_reason, .int x_trial_cause])), (h_x_trial_state, .inr (1, [.int x_trial_state_row, .int x_trial_state_table, .int x_trial_state_kept, .ref h_x_trial_state_book])), (h_x_trial_state_book, .inl (cI, 8, .inl x_trial_state_book)), (h_x_ways, .inr (4, [.ref h_x_ways_stock, .ref h_x_ways_weight, .ref h_x_ways_known, .ref h_x_ways_found, nv x_ways_measure h_x_measured, .int x_ways_values, .int x_ways_row, .int x_ways_rowCodes, .int x_ways_table, .int x_ways_length, .int x_ways_full, .int x_ways_pairs, .int x_ways_codes])), (h_x_ways_stock, .inl (cI, 16, .inl x_ways_stock)), (h_x_ways_weight, .inl (cI, 16, .inl x_ways_weight)), (h_x_ways_known, .inl (cI, 577, .inl x_ways_known)), (h_x_ways_found, .inl (cI, 6347, .inl x_ways_found)), (h_x_measured, .inr (0, [.int x_measured_which, .int x_measured_x, .int x_measured_y, .int x_measured_row, .int x_measured_table])), (h_x_pairCounts, .inl (cI, 16, .inl x_pairCounts))]) hc m_X5_52 (c_X5_within l D cI cS X F a3 (1 : Int32) hu6) [] (rmok_of (Nat.le_of_ble_eq_true rfl)) ⟨Nat.zero_le _, Nat.zero_le _⟩ rfl rfl rfl rfl rfl ⟨rfl, rfl, rfl⟩ dX5_bias_18 ?_
      refine G_if_ne (tgt := 27) hc dX5_bias_21 (by decide) (fun c26 => ?_) (fun c26 => ?_)
      · have h := inn h c26
        refine G_aload_n hc dX5_bias_27 rfl ?_
        refine G_get hc f_X5_10 0 rfl rfl dX5_bias_28 ?_
        refine G_get hc f_X5_57 1 rfl rfl dX5_bias_31 ?_
        refine G_iload_n hc dX5_bias_34 rfl ?_
        obtain ⟨z7, hu8, h⟩ := ob h
        refine G_callSI (ws2 := [(h_x, .inr (5, [.ref h_x_now, .ref h_past, .int x_pastStates, .ref h_x_text, .ref h_x_trial, .ref h_x_ways, .ref h_x_measured, .ref h_x_pairCounts])), (h_x_now, .inr (1, [.int x_now_row, .int x_now_table, .int x_now_kept, .ref h_x_now_book])), (h_x_now_book, .inl (cI, 8, .inl x_now_book)), (h_x_text, .inr (2, [.ref h_x_text_signs, .int x_text_length, .int x_text_word, .int x_text_kind, .int x_text_number, .int x_text_row, .int x_text_reached, .int x_text_broken])), (h_x_text_signs, .inl (cI, 60, .inl x_text_signs)), (h_x_trial, .inr (3, [.ref h_x_trial_state, .int x_trial_orders, .int x_trial_position, .int x_trial_reason, .int x_trial_cause])), (h_x_trial_state, .inr (1, [.int x_trial_state_row, .int x_trial_state_table, .int x_trial_state_kept, .ref h_x_trial_state_book])), (h_x_trial_state_book, .inl (cI, 8, .inl x_trial_state_book)), (h_x_ways, .inr (4, [.ref h_x_ways_stock, .ref h_x_ways_weight, .ref h_x_ways_known, .ref h_x_ways_found, nv x_ways_measure h_x_measured, .int x_ways_values, .int x_ways_row, .int x_ways_rowCodes, .int x_ways_table, .int x_ways_length, .int x_ways_full, .int x_ways_pairs, .int x_ways_codes])), (h_x_ways_stock, .inl (cI, 16, .inl x_ways_stock)), (h_x_ways_weight, .inl (cI, 16, .inl x_ways_weight)), (h_x_ways_known, .inl (cI, 577, .inl x_ways_known)), (h_x_ways_found, .inl (cI, 6347, .inl x_ways_found)), (h_x_measured, .inr (0, [.int x_measured_which, .int x_measured_x, .int x_measured_y, .int x_measured_row, .int x_measured_table])), (h_x_pairCounts, .inl (cI, 16, .inl x_pairCounts))]) hc m_X5_98 (c_X5_lettersIn l D cI cS X F x_now_row a1 hu8) [] (rmok_of (Nat.le_of_ble_eq_true rfl)) ⟨Nat.zero_le _, Nat.zero_le _⟩ rfl rfl rfl rfl rfl ⟨rfl, rfl, rfl⟩ dX5_bias_35 ?_
        refine G_aload_n hc dX5_bias_38 rfl ?_
        refine G_get hc f_X5_10 0 rfl rfl dX5_bias_39 ?_
        refine G_get hc f_X5_57 1 rfl rfl dX5_bias_42 ?_
        refine G_iload_n hc dX5_bias_45 rfl ?_
        obtain ⟨z9, hu10, h⟩ := ob h
        refine G_callSI (ws2 := [(h_x, .inr (5, [.ref h_x_now, .ref h_past, .int x_pastStates, .ref h_x_text, .ref h_x_trial, .ref h_x_ways, .ref h_x_measured, .ref h_x_pairCounts])), (h_x_now, .inr (1, [.int x_now_row, .int x_now_table, .int x_now_kept, .ref h_x_now_book])), (h_x_now_book, .inl (cI, 8, .inl x_now_book)), (h_x_text, .inr (2, [.ref h_x_text_signs, .int x_text_length, .int x_text_word, .int x_text_kind, .int x_text_number, .int x_text_row, .int x_text_reached, .int x_text_broken])), (h_x_text_signs, .inl (cI, 60, .inl x_text_signs)), (h_x_trial, .inr (3, [.ref h_x_trial_state, .int x_trial_orders, .int x_trial_position, .int x_trial_reason, .int x_trial_cause])), (h_x_trial_state, .inr (1, [.int x_trial_state_row, .int x_trial_state_table, .int x_trial_state_kept, .ref h_x_trial_state_book])), (h_x_trial_state_book, .inl (cI, 8, .inl x_trial_state_book)), (h_x_ways, .inr (4, [.ref h_x_ways_stock, .ref h_x_ways_weight, .ref h_x_ways_known, .ref h_x_ways_found, nv x_ways_measure h_x_measured, .int x_ways_values, .int x_ways_row, .int x_ways_rowCodes, .int x_ways_table, .int x_ways_length, .int x_ways_full, .int x_ways_pairs, .int x_ways_codes])), (h_x_ways_stock, .inl (cI, 16, .inl x_ways_stock)), (h_x_ways_weight, .inl (cI, 16, .inl x_ways_weight)), (h_x_ways_known, .inl (cI, 577, .inl x_ways_known)), (h_x_ways_found, .inl (cI, 6347, .inl x_ways_found)), (h_x_measured, .inr (0, [.int x_measured_which, .int x_measured_x, .int x_measured_y, .int x_measured_row, .int x_measured_table])), (h_x_pairCounts, .inl (cI, 16, .inl x_pairCounts))]) hc m_X5_98 (c_X5_lettersIn l D cI cS X F x_now_row a2 hu10) [] (rmok_of (Nat.le_of_ble_eq_true rfl)) ⟨Nat.zero_le _, Nat.zero_le _⟩ rfl rfl rfl rfl rfl ⟨rfl, rfl, rfl⟩ dX5_bias_46 ?_
        refine G_imul hc dX5_bias_49 ?_
        obtain ⟨v11, e_v11, h⟩ := sb h
        refine G_top e_v11 ?_
        refine G_istore (lv' := [(0, .ref h_x), (1, .int a1), (2, .int a2), (3, .int a3), (4, .int v11)]) hc dX5_bias_50 rfl rfl ?_
        refine G_iload hc dX5_bias_52 rfl ?_
        refine G_if_ne (tgt := 60) hc dX5_bias_54 (by decide) (fun c25 => ?_) (fun c25 => ?_)
        · have h := inn h c25
          refine G_aload_n hc dX5_bias_60 rfl ?_
          refine G_get hc f_X5_10 0 rfl rfl dX5_bias_61 ?_
          refine G_get hc f_X5_57 1 rfl rfl dX5_bias_64 ?_
          refine G_iload_n hc dX5_bias_67 rfl ?_
          refine G_iload_n hc dX5_bias_68 rfl ?_
          obtain ⟨z12, hu13, h⟩ := ob h
          refine G_callSI (ws2 := [(h_x, .inr (5, [.ref h_x_now, .ref h_past, .int x_pastStates, .ref h_x_text, .ref h_x_trial, .ref h_x_ways, .ref h_x_measured, .ref h_x_pairCounts])), (h_x_now, .inr (1, [.int x_now_row, .int x_now_table, .int x_now_kept, .ref h_x_now_book])), (h_x_now_book, .inl (cI, 8, .inl x_now_book)), (h_x_text, .inr (2, [.ref h_x_text_signs, .int x_text_length, .int x_text_word, .int x_text_kind, .int x_text_number, .int x_text_row, .int x_text_reached, .int x_text_broken])), (h_x_text_signs, .inl (cI, 60, .inl x_text_signs)), (h_x_trial, .inr (3, [.ref h_x_trial_state, .int x_trial_orders, .int x_trial_position, .int x_trial_reason, .int x_trial_cause])), (h_x_trial_state, .inr (1, [.int x_trial_state_row, .int x_trial_state_table, .int x_trial_state_kept, .ref h_x_trial_state_book])), (h_x_trial_state_book, .inl (cI, 8, .inl x_trial_state_book)), (h_x_ways, .inr (4, [.ref h_x_ways_stock, .ref h_x_ways_weight, .ref h_x_ways_known, .ref h_x_ways_found, nv x_ways_measure h_x_measured, .int x_ways_values, .int x_ways_row, .int x_ways_rowCodes, .int x_ways_table, .int x_ways_length, .int x_ways_full, .int x_ways_pairs, .int x_ways_codes])), (h_x_ways_stock, .inl (cI, 16, .inl x_ways_stock)), (h_x_ways_weight, .inl (cI, 16, .inl x_ways_weight)), (h_x_ways_known, .inl (cI, 577, .inl x_ways_known)), (h_x_ways_found, .inl (cI, 6347, .inl x_ways_found)), (h_x_measured, .inr (0, [.int x_measured_which, .int x_measured_x, .int x_measured_y, .int x_measured_row, .int x_measured_table])), (h_x_pairCounts, .inl (cI, 16, .inl x_pairCounts))]) hc m_X5_92 (c_X5_pairsIn l D cI cS X F x_now_row a1 a2 hu13) [] (rmok_of (Nat.le_of_ble_eq_true rfl)) ⟨Nat.zero_le _, Nat.zero_le _⟩ rfl rfl rfl rfl rfl ⟨rfl, rfl, rfl⟩ dX5_bias_69 ?_
          refine G_aload_n hc dX5_bias_72 rfl ?_
          refine G_get hc f_X5_10 0 rfl rfl dX5_bias_73 ?_
          refine G_get hc f_X5_57 1 rfl rfl dX5_bias_76 ?_
          obtain ⟨z14, hu15, h⟩ := ob h
          refine G_callSI (ws2 := [(h_x, .inr (5, [.ref h_x_now, .ref h_past, .int x_pastStates, .ref h_x_text, .ref h_x_trial, .ref h_x_ways, .ref h_x_measured, .ref h_x_pairCounts])), (h_x_now, .inr (1, [.int x_now_row, .int x_now_table, .int x_now_kept, .ref h_x_now_book])), (h_x_now_book, .inl (cI, 8, .inl x_now_book)), (h_x_text, .inr (2, [.ref h_x_text_signs, .int x_text_length, .int x_text_word, .int x_text_kind, .int x_text_number, .int x_text_row, .int x_text_reached, .int x_text_broken])), (h_x_text_signs, .inl (cI, 60, .inl x_text_signs)), (h_x_trial, .inr (3, [.ref h_x_trial_state, .int x_trial_orders, .int x_trial_position, .int x_trial_reason, .int x_trial_cause])), (h_x_trial_state, .inr (1, [.int x_trial_state_row, .int x_trial_state_table, .int x_trial_state_kept, .ref h_x_trial_state_book])), (h_x_trial_state_book, .inl (cI, 8, .inl x_trial_state_book)), (h_x_ways, .inr (4, [.ref h_x_ways_stock, .ref h_x_ways_weight, .ref h_x_ways_known, .ref h_x_ways_found, nv x_ways_measure h_x_measured, .int x_ways_values, .int x_ways_row, .int x_ways_rowCodes, .int x_ways_table, .int x_ways_length, .int x_ways_full, .int x_ways_pairs, .int x_ways_codes])), (h_x_ways_stock, .inl (cI, 16, .inl x_ways_stock)), (h_x_ways_weight, .inl (cI, 16, .inl x_ways_weight)), (h_x_ways_known, .inl (cI, 577, .inl x_ways_known)), (h_x_ways_found, .inl (cI, 6347, .inl x_ways_found)), (h_x_measured, .inr (0, [.int x_measured_which, .int x_measured_x, .int x_measured_y, .int x_measured_row, .int x_measured_table])), (h_x_pairCounts, .inl (cI, 16, .inl x_pairCounts))]) hc m_X5_61 (c_X5_lengthOf l D cI cS X F x_now_row hu15) [] (rmok_of (Nat.le_of_ble_eq_true rfl)) ⟨Nat.zero_le _, Nat.zero_le _⟩ rfl rfl rfl rfl rfl ⟨rfl, rfl, rfl⟩ dX5_bias_79 ?_
          refine G_imul hc dX5_bias_82 ?_
          obtain ⟨v16, e_v16, h⟩ := sb h
          refine G_top e_v16 ?_
          refine G_istore (lv' := [(0, .ref h_x), (1, .int a1), (2, .int a2), (3, .int a3), (4, .int v11), (5, .int v16)]) hc dX5_bias_83 rfl rfl ?_
          refine G_iload hc dX5_bias_85 rfl ?_
          refine G_iload hc dX5_bias_87 rfl ?_
          obtain ⟨z17, hu18, h⟩ := ob h
          refine G_callSI (ws2 := [(h_x, .inr (5, [.ref h_x_now, .ref h_past, .int x_pastStates, .ref h_x_text, .ref h_x_trial, .ref h_x_ways, .ref h_x_measured, .ref h_x_pairCounts])), (h_x_now, .inr (1, [.int x_now_row, .int x_now_table, .int x_now_kept, .ref h_x_now_book])), (h_x_now_book, .inl (cI, 8, .inl x_now_book)), (h_x_text, .inr (2, [.ref h_x_text_signs, .int x_text_length, .int x_text_word, .int x_text_kind, .int x_text_number, .int x_text_row, .int x_text_reached, .int x_text_broken])), (h_x_text_signs, .inl (cI, 60, .inl x_text_signs)), (h_x_trial, .inr (3, [.ref h_x_trial_state, .int x_trial_orders, .int x_trial_position, .int x_trial_reason, .int x_trial_cause])), (h_x_trial_state, .inr (1, [.int x_trial_state_row, .int x_trial_state_table, .int x_trial_state_kept, .ref h_x_trial_state_book])), (h_x_trial_state_book, .inl (cI, 8, .inl x_trial_state_book)), (h_x_ways, .inr (4, [.ref h_x_ways_stock, .ref h_x_ways_weight, .ref h_x_ways_known, .ref h_x_ways_found, nv x_ways_measure h_x_measured, .int x_ways_values, .int x_ways_row, .int x_ways_rowCodes, .int x_ways_table, .int x_ways_length, .int x_ways_full, .int x_ways_pairs, .int x_ways_codes])), (h_x_ways_stock, .inl (cI, 16, .inl x_ways_stock)), (h_x_ways_weight, .inl (cI, 16, .inl x_ways_weight)), (h_x_ways_known, .inl (cI, 577, .inl x_ways_known)), (h_x_ways_found, .inl (cI, 6347, .inl x_ways_found)), (h_x_measured, .inr (0, [.int x_measured_which, .int x_measured_x, .int x_measured_y, .int x_measured_row, .int x_measured_table])), (h_x_pairCounts, .inl (cI, 16, .inl x_pairCounts))]) hc m_X5_101 (c_X5_commonDivisor l D cI cS X F v16 v11 hu18) [] (rmok_of (Nat.le_of_ble_eq_true rfl)) ⟨Nat.zero_le _, Nat.zero_le _⟩ rfl rfl rfl rfl rfl ⟨rfl, rfl, rfl⟩ dX5_bias_89 ?_
          refine G_istore (lv' := [(0, .ref h_x), (1, .int a1), (2, .int a2), (3, .int a3), (4, .int v11), (5, .int v16), (6, .int z17)]) hc dX5_bias_92 rfl rfl ?_
          refine G_iload hc dX5_bias_94 rfl ?_
          refine G_iconst (v := 1) hc dX5_bias_96 (by decide) ?_
          refine G_icmp_ge (tgt := 103) hc dX5_bias_97 (by decide) (fun c24 => ?_) (fun c24 => ?_)
          · have h := ip h c24
            refine G_iload_n hc dX5_bias_103 rfl ?_
            obtain ⟨t19, hr21, h⟩ := ob h
            have hj20 : G p l e (rmk 3) s m [.ref h_x, .int a1, .int a2, .int a3].toArray below meth c D A 7 0 0 (QI below [.ref h_x, .int a1, .int a2, .int a3].toArray s D A (PoI res [(h_x, .inr (5, [.ref h_x_now, .ref h_past, .int x_pastStates, .ref h_x_text, .ref h_x_trial, .ref h_x_ways, .ref h_x_measured, .ref h_x_pairCounts])), (h_x_now, .inr (1, [.int x_now_row, .int x_now_table, .int x_now_kept, .ref h_x_now_book])), (h_x_now_book, .inl (cI, 8, .inl x_now_book)), (h_x_text, .inr (2, [.ref h_x_text_signs, .int x_text_length, .int x_text_word, .int x_text_kind, .int x_text_number, .int x_text_row, .int x_text_reached, .int x_text_broken])), (h_x_text_signs, .inl (cI, 60, .inl x_text_signs)), (h_x_trial, .inr (3, [.ref h_x_trial_state, .int x_trial_orders, .int x_trial_position, .int x_trial_reason, .int x_trial_cause])), (h_x_trial_state, .inr (1, [.int x_trial_state_row, .int x_trial_state_table, .int x_trial_state_kept, .ref h_x_trial_state_book])), (h_x_trial_state_book, .inl (cI, 8, .inl x_trial_state_book)), (h_x_ways, .inr (4, [.ref h_x_ways_stock, .ref h_x_ways_weight, .ref h_x_ways_known, .ref h_x_ways_found, nv x_ways_measure h_x_measured, .int x_ways_values, .int x_ways_row, .int x_ways_rowCodes, .int x_ways_table, .int x_ways_length, .int x_ways_full, .int x_ways_pairs, .int x_ways_codes])), (h_x_ways_stock, .inl (cI, 16, .inl x_ways_stock)), (h_x_ways_weight, .inl (cI, 16, .inl x_ways_weight)), (h_x_ways_known, .inl (cI, 577, .inl x_ways_known)), (h_x_ways_found, .inl (cI, 6347, .inl x_ways_found)), (h_x_measured, .inr (0, [.int x_measured_which, .int x_measured_x, .int x_measured_y, .int x_measured_row, .int x_measured_table])), (h_x_pairCounts, .inl (cI, 16, .inl x_pairCounts))])) [(h_x, .inr (5, [.ref h_x_now, .ref h_past, .int x_pastStates, .ref h_x_text, .ref h_x_trial, .ref h_x_ways, .ref h_x_measured, .ref h_x_pairCounts])), (h_x_now, .inr (1, [.int x_now_row, .int x_now_table, .int x_now_kept, .ref h_x_now_book])), (h_x_now_book, .inl (cI, 8, .inl x_now_book)), (h_x_text, .inr (2, [.ref h_x_text_signs, .int x_text_length, .int x_text_word, .int x_text_kind, .int x_text_number, .int x_text_row, .int x_text_reached, .int x_text_broken])), (h_x_text_signs, .inl (cI, 60, .inl x_text_signs)), (h_x_trial, .inr (3, [.ref h_x_trial_state, .int x_trial_orders, .int x_trial_position, .int x_trial_reason, .int x_trial_cause])), (h_x_trial_state, .inr (1, [.int x_trial_state_row, .int x_trial_state_table, .int x_trial_state_kept, .ref h_x_trial_state_book])), (h_x_trial_state_book, .inl (cI, 8, .inl x_trial_state_book)), (h_x_ways, .inr (4, [.ref h_x_ways_stock, .ref h_x_ways_weight, .ref h_x_ways_known, .ref h_x_ways_found, nv x_ways_measure h_x_measured, .int x_ways_values, .int x_ways_row, .int x_ways_rowCodes, .int x_ways_table, .int x_ways_length, .int x_ways_full, .int x_ways_pairs, .int x_ways_codes])), (h_x_ways_stock, .inl (cI, 16, .inl x_ways_stock)), (h_x_ways_weight, .inl (cI, 16, .inl x_ways_weight)), (h_x_ways_known, .inl (cI, 577, .inl x_ways_known)), (h_x_ways_found, .inl (cI, 6347, .inl x_ways_found)), (h_x_measured, .inr (0, [.int x_measured_which, .int x_measured_x, .int x_measured_y, .int x_measured_row, .int x_measured_table])), (h_x_pairCounts, .inl (cI, 16, .inl x_pairCounts))] [(6, .int z17)] 114 [.int t19] := by
              refine G_iload hc dX5_bias_114 rfl ?_
              obtain ⟨hz23, h⟩ := db h
              refine G_idiv hc dX5_bias_116 hz23 ?_
              have h := Option.some.inj h
              subst h
              exact G_ireturn hc ⟨rfl, rfl⟩ dX5_bias_117
            clear h
            have h := hr21
            clear hr21
            refine G_if_ne (tgt := 112) hc dX5_bias_104 (by decide) (fun c22 => ?_) (fun c22 => ?_)
            · have h := inn h c22
              refine G_iload hc dX5_bias_112 rfl ?_
              have h := Option.some.inj h
              subst h
              refine G_lv (lv' := [(6, .int z17)]) (lsame_cons rfl lsame_nil) ?_
              exact hj20
            · have h := ip h c22
              refine G_iload hc dX5_bias_107 rfl ?_
              refine G_goto (tgt := 114) hc dX5_bias_109 (by decide) ?_
              have h := Option.some.inj h
              subst h
              refine G_lv (lv' := [(6, .int z17)]) (lsame_cons rfl lsame_nil) ?_
              exact hj20
          · have h := inn h c24
            refine G_ldc (v := -1000004) hc k_X5_91 dX5_bias_100 ?_
            have h := Option.some.inj h
            subst h
            exact G_ireturn hc ⟨rfl, rfl⟩ dX5_bias_102
        · have h := ip h c25
          refine G_ldc (v := -1000004) hc k_X5_91 dX5_bias_57 ?_
          have h := Option.some.inj h
          subst h
          exact G_ireturn hc ⟨rfl, rfl⟩ dX5_bias_59
      · have h := ip h c26
        refine G_ldc (v := -1000001) hc k_X5_56 dX5_bias_24 ?_
        have h := Option.some.inj h
        subst h
        exact G_ireturn hc ⟨rfl, rfl⟩ dX5_bias_26
set_option maxHeartbeats 4000000 in
set_option maxRecDepth 100000 in
theorem c_X5_keepsPairs (l : Launch) (D : va_G) (cI cS : ClassId) (X : XP) (F : Nat) (a0 : Int32) {res : Int32} (h : f_X5_keepsPairs F a0 = some res) : CtI l D cI cS X yX5_keepsPairs cX5_keepsPairs 1 (some .boolean) 1 [.int a0] [] (PoI res []) := by
  refine CtI.of (by decide +kernel) rfl ?_
  intro p e s m below meth c A hc
  refine G_lv (lv' := [(0, .int a0)]) (lsame_cons rfl lsame_nil) ?_
  unfold f_X5_keepsPairs at h
  refine G_iload_n hc dX5_keepsPairs_0 rfl ?_
  refine G_iconst (v := 1) hc dX5_keepsPairs_1 (by decide) ?_
  obtain ⟨t1, hr3, h⟩ := ob h
  have hj2 : G p l e (rmk 1) s m [.int a0].toArray below meth c D A 1 0 0 (QI below [.int a0].toArray s D A (PoI res [])) [] [] 15 [.int t1] := by
    obtain ⟨hz6, h⟩ := zb h
    have h := Option.some.inj h
    subst h
    exact G_zreturn hc hz6 ⟨rfl, rfl⟩ dX5_keepsPairs_15
  clear h
  have h := hr3
  clear hr3
  refine G_icmp_eq (tgt := 10) hc dX5_keepsPairs_2 (by decide) (fun c5 => ?_) (fun c5 => ?_)
  · have h := ip h c5
    refine G_iconst (v := 1) hc dX5_keepsPairs_10 (by decide) ?_
    refine G_goto (tgt := 15) hc dX5_keepsPairs_11 (by decide) ?_
    have h := Option.some.inj h
    subst h
    refine G_lv (lv' := []) lsame_nil ?_
    exact hj2
  · have h := inn h c5
    refine G_iload_n hc dX5_keepsPairs_5 rfl ?_
    refine G_iconst (v := 2) hc dX5_keepsPairs_6 (by decide) ?_
    refine G_icmp_ne (tgt := 14) hc dX5_keepsPairs_7 (by decide) (fun c4 => ?_) (fun c4 => ?_)
    · have h := inn h c4
      refine G_iconst (v := 0) hc dX5_keepsPairs_14 (by decide) ?_
      have h := Option.some.inj h
      subst h
      refine G_lv (lv' := []) lsame_nil ?_
      exact hj2
    · have h := ip h c4
      refine G_iconst (v := 1) hc dX5_keepsPairs_10 (by decide) ?_
      refine G_goto (tgt := 15) hc dX5_keepsPairs_11 (by decide) ?_
      have h := Option.some.inj h
      subst h
      refine G_lv (lv' := []) lsame_nil ?_
      exact hj2
set_option maxHeartbeats 4000000 in
set_option maxRecDepth 100000 in
theorem c_X5_keepsCodes (l : Launch) (D : va_G) (cI cS : ClassId) (X : XP) (F : Nat) (a0 : Int32) {res : Int32} (h : f_X5_keepsCodes F a0 = some res) : CtI l D cI cS X yX5_keepsCodes cX5_keepsCodes 1 (some .boolean) 1 [.int a0] [] (PoI res []) := by
  refine CtI.of (by decide +kernel) rfl ?_
  intro p e s m below meth c A hc
  refine G_lv (lv' := [(0, .int a0)]) (lsame_cons rfl lsame_nil) ?_
  unfold f_X5_keepsCodes at h
  refine G_iload_n hc dX5_keepsCodes_0 rfl ?_
  refine G_iconst (v := 3) hc dX5_keepsCodes_1 (by decide) ?_
  obtain ⟨t1, hr3, h⟩ := ob h
  have hj2 : G p l e (rmk 1) s m [.int a0].toArray below meth c D A 1 0 0 (QI below [.int a0].toArray s D A (PoI res [])) [] [] 10 [.int t1] := by
    obtain ⟨hz5, h⟩ := zb h
    have h := Option.some.inj h
    subst h
    exact G_zreturn hc hz5 ⟨rfl, rfl⟩ dX5_keepsCodes_10
  clear h
  have h := hr3
  clear hr3
  refine G_icmp_ne (tgt := 9) hc dX5_keepsCodes_2 (by decide) (fun c4 => ?_) (fun c4 => ?_)
  · have h := inn h c4
    refine G_iconst (v := 0) hc dX5_keepsCodes_9 (by decide) ?_
    have h := Option.some.inj h
    subst h
    refine G_lv (lv' := []) lsame_nil ?_
    exact hj2
  · have h := ip h c4
    refine G_iconst (v := 1) hc dX5_keepsCodes_5 (by decide) ?_
    refine G_goto (tgt := 10) hc dX5_keepsCodes_6 (by decide) ?_
    have h := Option.some.inj h
    subst h
    refine G_lv (lv' := []) lsame_nil ?_
    exact hj2
set_option maxHeartbeats 4000000 in
set_option maxRecDepth 100000 in
theorem c_X5_wordCode (l : Launch) (D : va_G) (cI cS : ClassId) (X : XP) (F : Nat) (a0 : Int32) (a1 : Int32) (a2 : Int32) {res : Int32} (h : f_X5_wordCode F a0 a1 a2 = some res) : CtI l D cI cS X yX5_wordCode cX5_wordCode 3 (some .int) 2 [.int a0, .int a1, .int a2] [] (PoI res []) := by
  refine CtI.of (by decide +kernel) rfl ?_
  intro p e s m below meth c A hc
  refine G_lv (lv' := [(0, .int a0), (1, .int a1), (2, .int a2)]) (lsame_cons rfl (lsame_cons rfl (lsame_cons rfl lsame_nil))) ?_
  unfold f_X5_wordCode at h
  refine G_iload_n hc dX5_wordCode_0 rfl ?_
  refine G_iload_n hc dX5_wordCode_1 rfl ?_
  refine G_iload_n hc dX5_wordCode_2 rfl ?_
  refine G_iconst (v := 1) hc dX5_wordCode_3 (by decide) ?_
  refine G_isub hc dX5_wordCode_4 ?_
  obtain ⟨z1, hu2, h⟩ := ob h
  refine G_callSI (ws2 := []) hc m_X5_88 (c_X5_letterOf l D cI cS X F a1 (a2 - (1 : Int32)) hu2) [] (rmok_of (Nat.le_of_ble_eq_true rfl)) ⟨Nat.zero_le _, Nat.zero_le _⟩ rfl rfl rfl rfl rfl ⟨rfl, rfl, rfl⟩ dX5_wordCode_5 ?_
  refine G_iload_n hc dX5_wordCode_8 rfl ?_
  refine G_iload_n hc dX5_wordCode_9 rfl ?_
  obtain ⟨z3, hu4, h⟩ := ob h
  refine G_callSI (ws2 := []) hc m_X5_88 (c_X5_letterOf l D cI cS X F a1 a2 hu4) [] (rmok_of (Nat.le_of_ble_eq_true rfl)) ⟨Nat.zero_le _, Nat.zero_le _⟩ rfl rfl rfl rfl rfl ⟨rfl, rfl, rfl⟩ dX5_wordCode_10 ?_
  obtain ⟨z5, hu6, h⟩ := ob h
  refine G_callSI (ws2 := []) hc m_X5_76 (c_X5_codeIn l D cI cS X F a0 z1 z3 hu6) [] (rmok_of (Nat.le_of_ble_eq_true rfl)) ⟨Nat.zero_le _, Nat.zero_le _⟩ rfl rfl rfl rfl rfl ⟨rfl, rfl, rfl⟩ dX5_wordCode_13 ?_
  have h := Option.some.inj h
  subst h
  exact G_ireturn hc ⟨rfl, rfl⟩ dX5_wordCode_16
set_option maxHeartbeats 4000000 in
set_option maxRecDepth 100000 in
theorem c_X5_longer (l : Launch) (D : va_G) (cI cS : ClassId) (X : XP) (F : Nat) (a0 : Int32) (a1 : Int32) {res : Int32} (h : f_X5_longer F a0 a1 = some res) : CtI l D cI cS X yX5_longer cX5_longer 3 (some .int) 2 [.int a0, .int a1] [] (PoI res []) := by
  refine CtI.of (by decide +kernel) rfl ?_
  intro p e s m below meth c A hc
  refine G_lv (lv' := [(0, .int a0), (1, .int a1)]) (lsame_cons rfl (lsame_cons rfl lsame_nil)) ?_
  unfold f_X5_longer at h
  refine G_iload_n hc dX5_longer_0 rfl ?_
  obtain ⟨z1, hu2, h⟩ := ob h
  refine G_callSI (ws2 := []) hc m_X5_61 (c_X5_lengthOf l D cI cS X F a0 hu2) [] (rmok_of (Nat.le_of_ble_eq_true rfl)) ⟨Nat.zero_le _, Nat.zero_le _⟩ rfl rfl rfl rfl rfl ⟨rfl, rfl, rfl⟩ dX5_longer_1 ?_
  refine G_istore_n (lv' := [(0, .int a0), (1, .int a1), (2, .int z1)]) hc dX5_longer_4 rfl rfl ?_
  refine G_iload_n hc dX5_longer_5 rfl ?_
  refine G_bipush (v := 10) hc dX5_longer_6 (by decide) ?_
  refine G_icmp_lt (tgt := 13) hc dX5_longer_8 (by decide) (fun c3 => ?_) (fun c3 => ?_)
  · have h := ip h c3
    refine G_iload_n hc dX5_longer_13 rfl ?_
    refine G_ldc (v := 1048576) hc k_X5_228 dX5_longer_14 ?_
    refine G_iadd hc dX5_longer_16 ?_
    refine G_iload_n hc dX5_longer_17 rfl ?_
    refine G_iconst (v := 3) hc dX5_longer_18 (by decide) ?_
    refine G_iand hc dX5_longer_19 ?_
    refine G_iconst (v := 2) hc dX5_longer_20 (by decide) ?_
    refine G_iload_n hc dX5_longer_21 rfl ?_
    refine G_imul hc dX5_longer_22 ?_
    refine G_ishl hc dX5_longer_23 ?_
    refine G_ior hc dX5_longer_24 ?_
    have h := Option.some.inj h
    subst h
    exact G_ireturn hc ⟨rfl, rfl⟩ dX5_longer_25
  · have h := inn h c3
    refine G_iload_n hc dX5_longer_11 rfl ?_
    have h := Option.some.inj h
    subst h
    exact G_ireturn hc ⟨rfl, rfl⟩ dX5_longer_12
set_option maxHeartbeats 4000000 in
set_option maxRecDepth 100000 in
theorem c_J7_fill_53178 (l : Launch) (D : va_G) (cI cS : ClassId) (X : XP) (F : Nat) (h_b0 : Nat) (n_b0 : Nat) (b0 : Nat → Int32) (a1 : Int32) {res : (Nat → Int32)} (h : f_J7_fill_53178 F n_b0 b0 a1 = some res) : CtV l D cI cS X yJ7_fill_53178 cJ7_fill_53178 4 1 [.ref h_b0, .int a1] [(h_b0, .inl (cI, n_b0, .inl b0))] (PoV [(h_b0, .inl (cI, n_b0, .inl res))]) := by
  refine CtV.of (by decide +kernel) rfl ?_
  intro p e s m below meth c A hc
  refine G_lv (lv' := [(0, .ref h_b0), (1, .int a1)]) (lsame_cons rfl (lsame_cons rfl lsame_nil)) ?_
  unfold f_J7_fill_53178 at h
  refine G_iconst (v := 0) hc dJ7_fill_53178_0 (by decide) ?_
  refine G_istore_n (lv' := [(0, .ref h_b0), (1, .int a1), (2, .int (0 : Int32))]) hc dJ7_fill_53178_1 rfl rfl ?_
  refine G_aload_n hc dJ7_fill_53178_2 rfl ?_
  refine G_alen hc 0 rfl rfl dJ7_fill_53178_3 ?_
  obtain ⟨v1, e_v1, h⟩ := sb h
  refine G_top e_v1 ?_
  refine G_istore_n (lv' := [(0, .ref h_b0), (1, .int a1), (2, .int (0 : Int32)), (3, .int v1)]) hc dJ7_fill_53178_4 rfl rfl ?_
  obtain ⟨e4, hl5, h⟩ := ob h
  have hK9 : G p l e (rmk 1) s m [.ref h_b0, .int a1].toArray below meth c D A 4 0 0 (QV below [.ref h_b0, .int a1].toArray s D A (PoV [(h_b0, .inl (cI, n_b0, .inl res))])) [(h_b0, .inl (cI, n_b0, .inl e4))] [] 20 [] := by
    have h := Option.some.inj h
    subst h
    exact G_return hc rfl dJ7_fill_53178_20
  clear h
  have hL6 : ∀ (n7 : Nat) (u2 : Int32) (u3 : Nat → Int32), f_J7_fill_53178_L5 F n_b0 a1 v1 n7 u2 u3 = some e4 → G p l e (rmk 1) s m [.ref h_b0, .int a1].toArray below meth c D A 4 0 0 (QV below [.ref h_b0, .int a1].toArray s D A (PoV [(h_b0, .inl (cI, n_b0, .inl res))])) [(h_b0, .inl (cI, n_b0, .inl u3))] [(0, .ref h_b0), (1, .int a1), (2, .int u2), (3, .int v1)] 5 [] := by
    intro n7
    induction n7 with
    | zero =>
      intro u2 u3 h
      exact nz h
    | succ n7 ih8 =>
      intro u2 u3 h
      rw [f_J7_fill_53178_L5] at h
      refine G_iload_n hc dJ7_fill_53178_5 rfl ?_
      refine G_iload_n hc dJ7_fill_53178_6 rfl ?_
      refine G_icmp_ge (tgt := 20) hc dJ7_fill_53178_7 (by decide) (fun c12 => ?_) (fun c12 => ?_)
      · have h := ip h c12
        have h := Option.some.inj h
        subst h
        refine G_lv (lv' := []) lsame_nil ?_
        exact hK9
      · have h := inn h c12
        refine G_aload_n hc dJ7_fill_53178_10 rfl ?_
        refine G_iload_n hc dJ7_fill_53178_11 rfl ?_
        refine G_iload_n hc dJ7_fill_53178_12 rfl ?_
        obtain ⟨v10, i_v10, e_v10, h⟩ := wb h
        refine G_iast (ws' := [(h_b0, .inl (cI, n_b0, .inl v10))]) hc 0 rfl i_v10 e_v10 rfl dJ7_fill_53178_13 ?_
        obtain ⟨v11, e_v11, h⟩ := sb h
        refine G_iinc (v := v11) (lv' := [(0, .ref h_b0), (1, .int a1), (2, .int v11), (3, .int v1)]) hc dJ7_fill_53178_14 rfl (e_v11.trans rfl) rfl rfl ?_
        refine G_goto (tgt := 5) hc dJ7_fill_53178_17 (by decide) ?_
        refine G_lv (lv' := [(0, .ref h_b0), (1, .int a1), (2, .int v11), (3, .int v1)]) (lsame_cons rfl (lsame_cons rfl (lsame_cons rfl (lsame_cons rfl lsame_nil)))) ?_
        exact ih8 _ _ h
  refine G_lv (lv' := [(0, .ref h_b0), (1, .int a1), (2, .int (0 : Int32)), (3, .int v1)]) (lsame_cons rfl (lsame_cons rfl (lsame_cons rfl (lsame_cons rfl lsame_nil)))) ?_
  exact hL6 F _ _ hl5
set_option maxHeartbeats 4000000 in
set_option maxRecDepth 100000 in
theorem c_X4_countStock (l : Launch) (D : va_G) (cI cS : ClassId) (X : XP) (F : Nat) (h_w h_w_stock h_w_weight h_w_known h_w_found h_wM : Nat) (w_measure : Bool) (w_values : Int32) (w_row : Int32) (w_rowCodes : Int32) (w_table : Int32) (w_length : Int32) (w_full : Int32) (w_pairs : Int32) (w_codes : Int32) (w_stock : Nat → Int32) (w_weight : Nat → Int32) (w_known : Nat → Int32) (w_found : Nat → Int32) (wM_which : Int32) (wM_x : Int32) (wM_y : Int32) (wM_row : Int32) (wM_table : Int32) {res : (Nat → Int32)} (h : f_X4_countStock F w_row w_length w_pairs w_stock = some res) : CtV l D cI cS X yX4_countStock cX4_countStock 4 2 [.ref h_w] [(h_w, .inr (4, [.ref h_w_stock, .ref h_w_weight, .ref h_w_known, .ref h_w_found, nv w_measure h_wM, .int w_values, .int w_row, .int w_rowCodes, .int w_table, .int w_length, .int w_full, .int w_pairs, .int w_codes])), (h_w_stock, .inl (cI, 16, .inl w_stock)), (h_w_weight, .inl (cI, 16, .inl w_weight)), (h_w_known, .inl (cI, 577, .inl w_known)), (h_w_found, .inl (cI, 6347, .inl w_found)), (h_wM, .inr (0, [.int wM_which, .int wM_x, .int wM_y, .int wM_row, .int wM_table]))] (PoV [(h_w, .inr (4, [.ref h_w_stock, .ref h_w_weight, .ref h_w_known, .ref h_w_found, nv w_measure h_wM, .int w_values, .int w_row, .int w_rowCodes, .int w_table, .int w_length, .int w_full, .int w_pairs, .int w_codes])), (h_w_stock, .inl (cI, 16, .inl res)), (h_w_weight, .inl (cI, 16, .inl w_weight)), (h_w_known, .inl (cI, 577, .inl w_known)), (h_w_found, .inl (cI, 6347, .inl w_found)), (h_wM, .inr (0, [.int wM_which, .int wM_x, .int wM_y, .int wM_row, .int wM_table]))]) := by
  refine CtV.of (by decide +kernel) rfl ?_
  intro p e s m below meth c A hc
  refine G_lv (lv' := [(0, .ref h_w)]) (lsame_cons rfl lsame_nil) ?_
  unfold f_X4_countStock at h
  refine G_aload_n hc dX4_countStock_0 rfl ?_
  refine G_get hc f_X4_9 0 rfl rfl dX4_countStock_1 ?_
  refine G_iconst (v := 0) hc dX4_countStock_4 (by decide) ?_
  obtain ⟨z1, hu2, h⟩ := ob h
  refine G_callSV (ws2 := [(h_w, .inr (4, [.ref h_w_stock, .ref h_w_weight, .ref h_w_known, .ref h_w_found, nv w_measure h_wM, .int w_values, .int w_row, .int w_rowCodes, .int w_table, .int w_length, .int w_full, .int w_pairs, .int w_codes])), (h_w_stock, .inl (cI, 16, .inl z1)), (h_w_weight, .inl (cI, 16, .inl w_weight)), (h_w_known, .inl (cI, 577, .inl w_known)), (h_w_found, .inl (cI, 6347, .inl w_found)), (h_wM, .inr (0, [.int wM_which, .int wM_x, .int wM_y, .int wM_row, .int wM_table]))]) hc m_X4_96 (c_J7_fill_53178 l D cI cS X F h_w_stock 16 w_stock (0 : Int32) hu2) [1] (rmok_of (Nat.le_of_ble_eq_true rfl)) ⟨Nat.zero_le _, Nat.zero_le _⟩ rfl rfl rfl rfl rfl ⟨rfl, rfl, rfl⟩ dX4_countStock_5 ?_
  refine G_aload_n hc dX4_countStock_8 rfl ?_
  refine G_get hc f_X4_32 0 rfl rfl dX4_countStock_9 ?_
  obtain ⟨t3, hr5, h⟩ := ob h
  have hj4 : G p l e (rmk 2) s m [.ref h_w].toArray below meth c D A 4 0 0 (QV below [.ref h_w].toArray s D A (PoV [(h_w, .inr (4, [.ref h_w_stock, .ref h_w_weight, .ref h_w_known, .ref h_w_found, nv w_measure h_wM, .int w_values, .int w_row, .int w_rowCodes, .int w_table, .int w_length, .int w_full, .int w_pairs, .int w_codes])), (h_w_stock, .inl (cI, 16, .inl res)), (h_w_weight, .inl (cI, 16, .inl w_weight)), (h_w_known, .inl (cI, 577, .inl w_known)), (h_w_found, .inl (cI, 6347, .inl w_found)), (h_wM, .inr (0, [.int wM_which, .int wM_x, .int wM_y, .int wM_row, .int wM_table]))])) [(h_w, .inr (4, [.ref h_w_stock, .ref h_w_weight, .ref h_w_known, .ref h_w_found, nv w_measure h_wM, .int w_values, .int w_row, .int w_rowCodes, .int w_table, .int w_length, .int w_full, .int w_pairs, .int w_codes])), (h_w_stock, .inl (cI, 16, .inl z1)), (h_w_weight, .inl (cI, 16, .inl w_weight)), (h_w_known, .inl (cI, 577, .inl w_known)), (h_w_found, .inl (cI, 6347, .inl w_found)), (h_wM, .inr (0, [.int wM_which, .int wM_x, .int wM_y, .int wM_row, .int wM_table]))] [(0, .ref h_w)] 20 [.int t3] := by
    refine G_istore_n (lv' := [(0, .ref h_w), (1, .int t3)]) hc dX4_countStock_20 rfl rfl ?_
    obtain ⟨e9, hl10, h⟩ := ob h
    have hK14 : G p l e (rmk 2) s m [.ref h_w].toArray below meth c D A 4 0 0 (QV below [.ref h_w].toArray s D A (PoV [(h_w, .inr (4, [.ref h_w_stock, .ref h_w_weight, .ref h_w_known, .ref h_w_found, nv w_measure h_wM, .int w_values, .int w_row, .int w_rowCodes, .int w_table, .int w_length, .int w_full, .int w_pairs, .int w_codes])), (h_w_stock, .inl (cI, 16, .inl res)), (h_w_weight, .inl (cI, 16, .inl w_weight)), (h_w_known, .inl (cI, 577, .inl w_known)), (h_w_found, .inl (cI, 6347, .inl w_found)), (h_wM, .inr (0, [.int wM_which, .int wM_x, .int wM_y, .int wM_row, .int wM_table]))])) [(h_w, .inr (4, [.ref h_w_stock, .ref h_w_weight, .ref h_w_known, .ref h_w_found, nv w_measure h_wM, .int w_values, .int w_row, .int w_rowCodes, .int w_table, .int w_length, .int w_full, .int w_pairs, .int w_codes])), (h_w_stock, .inl (cI, 16, .inl e9)), (h_w_weight, .inl (cI, 16, .inl w_weight)), (h_w_known, .inl (cI, 577, .inl w_known)), (h_w_found, .inl (cI, 6347, .inl w_found)), (h_wM, .inr (0, [.int wM_which, .int wM_x, .int wM_y, .int wM_row, .int wM_table]))] [] 93 [] := by
      have h := Option.some.inj h
      subst h
      exact G_return hc rfl dX4_countStock_93
    clear h
    have hL11 : ∀ (n12 : Nat) (u7 : Int32) (u8 : Nat → Int32), f_X4_countStock_L21 F w_row w_length w_pairs n12 u7 u8 = some e9 → G p l e (rmk 2) s m [.ref h_w].toArray below meth c D A 4 0 0 (QV below [.ref h_w].toArray s D A (PoV [(h_w, .inr (4, [.ref h_w_stock, .ref h_w_weight, .ref h_w_known, .ref h_w_found, nv w_measure h_wM, .int w_values, .int w_row, .int w_rowCodes, .int w_table, .int w_length, .int w_full, .int w_pairs, .int w_codes])), (h_w_stock, .inl (cI, 16, .inl res)), (h_w_weight, .inl (cI, 16, .inl w_weight)), (h_w_known, .inl (cI, 577, .inl w_known)), (h_w_found, .inl (cI, 6347, .inl w_found)), (h_wM, .inr (0, [.int wM_which, .int wM_x, .int wM_y, .int wM_row, .int wM_table]))])) [(h_w, .inr (4, [.ref h_w_stock, .ref h_w_weight, .ref h_w_known, .ref h_w_found, nv w_measure h_wM, .int w_values, .int w_row, .int w_rowCodes, .int w_table, .int w_length, .int w_full, .int w_pairs, .int w_codes])), (h_w_stock, .inl (cI, 16, .inl u8)), (h_w_weight, .inl (cI, 16, .inl w_weight)), (h_w_known, .inl (cI, 577, .inl w_known)), (h_w_found, .inl (cI, 6347, .inl w_found)), (h_wM, .inr (0, [.int wM_which, .int wM_x, .int wM_y, .int wM_row, .int wM_table]))] [(0, .ref h_w), (1, .int u7)] 21 [] := by
      intro n12
      induction n12 with
      | zero =>
        intro u7 u8 h
        exact nz h
      | succ n12 ih13 =>
        intro u7 u8 h
        rw [f_X4_countStock_L21] at h
        refine G_iload_n hc dX4_countStock_21 rfl ?_
        refine G_aload_n hc dX4_countStock_22 rfl ?_
        refine G_get hc f_X4_68 0 rfl rfl dX4_countStock_23 ?_
        refine G_icmp_ge (tgt := 93) hc dX4_countStock_26 (by decide) (fun c31 => ?_) (fun c31 => ?_)
        · have h := ip h c31
          have h := Option.some.inj h
          subst h
          refine G_lv (lv' := []) lsame_nil ?_
          exact hK14
        · have h := inn h c31
          refine G_aload_n hc dX4_countStock_29 rfl ?_
          refine G_get hc f_X4_59 0 rfl rfl dX4_countStock_30 ?_
          refine G_iload_n hc dX4_countStock_33 rfl ?_
          obtain ⟨z15, hu16, h⟩ := ob h
          refine G_callNI (ws2 := [(h_w, .inr (4, [.ref h_w_stock, .ref h_w_weight, .ref h_w_known, .ref h_w_found, nv w_measure h_wM, .int w_values, .int w_row, .int w_rowCodes, .int w_table, .int w_length, .int w_full, .int w_pairs, .int w_codes])), (h_w_stock, .inl (cI, 16, .inl u8)), (h_w_weight, .inl (cI, 16, .inl w_weight)), (h_w_known, .inl (cI, 577, .inl w_known)), (h_w_found, .inl (cI, 6347, .inl w_found)), (h_wM, .inr (0, [.int wM_which, .int wM_x, .int wM_y, .int wM_row, .int wM_table]))]) hc m_X4_102 (c_X5_letterOf l D cI cS X F w_row u7 hu16) [] (rmok_of (Nat.le_of_ble_eq_true rfl)) ⟨Nat.zero_le _, Nat.zero_le _⟩ rfl rfl rfl rfl rfl ⟨rfl, rfl, rfl⟩ dX4_countStock_34 ?_
          refine G_istore_n (lv' := [(0, .ref h_w), (1, .int u7), (2, .int z15)]) hc dX4_countStock_37 rfl rfl ?_
          refine G_aload_n hc dX4_countStock_38 rfl ?_
          refine G_get hc f_X4_32 0 rfl rfl dX4_countStock_39 ?_
          obtain ⟨t17, hr19, h⟩ := ob h
          have hj18 : G p l e (rmk 2) s m [.ref h_w].toArray below meth c D A 4 0 0 (QV below [.ref h_w].toArray s D A (PoV [(h_w, .inr (4, [.ref h_w_stock, .ref h_w_weight, .ref h_w_known, .ref h_w_found, nv w_measure h_wM, .int w_values, .int w_row, .int w_rowCodes, .int w_table, .int w_length, .int w_full, .int w_pairs, .int w_codes])), (h_w_stock, .inl (cI, 16, .inl res)), (h_w_weight, .inl (cI, 16, .inl w_weight)), (h_w_known, .inl (cI, 577, .inl w_known)), (h_w_found, .inl (cI, 6347, .inl w_found)), (h_wM, .inr (0, [.int wM_which, .int wM_x, .int wM_y, .int wM_row, .int wM_table]))])) [(h_w, .inr (4, [.ref h_w_stock, .ref h_w_weight, .ref h_w_known, .ref h_w_found, nv w_measure h_wM, .int w_values, .int w_row, .int w_rowCodes, .int w_table, .int w_length, .int w_full, .int w_pairs, .int w_codes])), (h_w_stock, .inl (cI, 16, .inl u8)), (h_w_weight, .inl (cI, 16, .inl w_weight)), (h_w_known, .inl (cI, 577, .inl w_known)), (h_w_found, .inl (cI, 6347, .inl w_found)), (h_wM, .inr (0, [.int wM_which, .int wM_x, .int wM_y, .int wM_row, .int wM_table]))] [(0, .ref h_w), (1, .int u7)] 63 [.int t17] := by
            refine G_istore_n (lv' := [(0, .ref h_w), (1, .int u7), (3, .int t17)]) hc dX4_countStock_63 rfl rfl ?_
            refine G_iload_n hc dX4_countStock_64 rfl ?_
            obtain ⟨t23, hr25, h⟩ := ob h
            have hj24 : G p l e (rmk 2) s m [.ref h_w].toArray below meth c D A 4 0 0 (QV below [.ref h_w].toArray s D A (PoV [(h_w, .inr (4, [.ref h_w_stock, .ref h_w_weight, .ref h_w_known, .ref h_w_found, nv w_measure h_wM, .int w_values, .int w_row, .int w_rowCodes, .int w_table, .int w_length, .int w_full, .int w_pairs, .int w_codes])), (h_w_stock, .inl (cI, 16, .inl res)), (h_w_weight, .inl (cI, 16, .inl w_weight)), (h_w_known, .inl (cI, 577, .inl w_known)), (h_w_found, .inl (cI, 6347, .inl w_found)), (h_wM, .inr (0, [.int wM_which, .int wM_x, .int wM_y, .int wM_row, .int wM_table]))])) [(h_w, .inr (4, [.ref h_w_stock, .ref h_w_weight, .ref h_w_known, .ref h_w_found, nv w_measure h_wM, .int w_values, .int w_row, .int w_rowCodes, .int w_table, .int w_length, .int w_full, .int w_pairs, .int w_codes])), (h_w_stock, .inl (cI, 16, .inl t23)), (h_w_weight, .inl (cI, 16, .inl w_weight)), (h_w_known, .inl (cI, 577, .inl w_known)), (h_w_found, .inl (cI, 6347, .inl w_found)), (h_wM, .inr (0, [.int wM_which, .int wM_x, .int wM_y, .int wM_row, .int wM_table]))] [(0, .ref h_w), (1, .int u7)] 87 [] := by
              obtain ⟨v30, e_v30, h⟩ := sb h
              refine G_iinc (v := v30) (lv' := [(0, .ref h_w), (1, .int v30)]) hc dX4_countStock_87 rfl (e_v30.trans rfl) rfl rfl ?_
              refine G_goto (tgt := 21) hc dX4_countStock_90 (by decide) ?_
              refine G_lv (lv' := [(0, .ref h_w), (1, .int v30)]) (lsame_cons rfl (lsame_cons rfl lsame_nil)) ?_
              exact ih13 _ _ h
            clear h
            have h := hr25
            clear hr25
            refine G_if_lt (tgt := 87) hc dX4_countStock_65 (by decide) (fun c29 => ?_) (fun c29 => ?_)
            · have h := ip h c29
              have h := Option.some.inj h
              subst h
              refine G_lv (lv' := [(0, .ref h_w), (1, .int u7)]) (lsame_cons rfl (lsame_cons rfl lsame_nil)) ?_
              exact hj24
            · have h := inn h c29
              refine G_iload_n hc dX4_countStock_68 rfl ?_
              refine G_aload_n hc dX4_countStock_69 rfl ?_
              refine G_get hc f_X4_9 0 rfl rfl dX4_countStock_70 ?_
              refine G_alen (v := 16) hc 1 rfl (by decide) dX4_countStock_73 ?_
              refine G_icmp_ge (tgt := 87) hc dX4_countStock_74 (by decide) (fun c28 => ?_) (fun c28 => ?_)
              · have h := ip h c28
                have h := Option.some.inj h
                subst h
                refine G_lv (lv' := [(0, .ref h_w), (1, .int u7)]) (lsame_cons rfl (lsame_cons rfl lsame_nil)) ?_
                exact hj24
              · have h := inn h c28
                refine G_aload_n hc dX4_countStock_77 rfl ?_
                refine G_get hc f_X4_9 0 rfl rfl dX4_countStock_78 ?_
                refine G_iload_n hc dX4_countStock_81 rfl ?_
                refine G_dup2 hc dX4_countStock_82 rfl rfl ?_
                obtain ⟨v26, i_v26, e_v26, h⟩ := rb h
                refine G_iald hc 1 rfl i_v26 e_v26 dX4_countStock_83 ?_
                refine G_iconst (v := 1) hc dX4_countStock_84 (by decide) ?_
                refine G_iadd hc dX4_countStock_85 ?_
                obtain ⟨v27, i_v27, e_v27, h⟩ := wb h
                refine G_iast (ws' := [(h_w, .inr (4, [.ref h_w_stock, .ref h_w_weight, .ref h_w_known, .ref h_w_found, nv w_measure h_wM, .int w_values, .int w_row, .int w_rowCodes, .int w_table, .int w_length, .int w_full, .int w_pairs, .int w_codes])), (h_w_stock, .inl (cI, 16, .inl v27)), (h_w_weight, .inl (cI, 16, .inl w_weight)), (h_w_known, .inl (cI, 577, .inl w_known)), (h_w_found, .inl (cI, 6347, .inl w_found)), (h_wM, .inr (0, [.int wM_which, .int wM_x, .int wM_y, .int wM_row, .int wM_table]))]) hc 1 rfl i_v27 e_v27 rfl dX4_countStock_86 ?_
                have h := Option.some.inj h
                subst h
                refine G_lv (lv' := [(0, .ref h_w), (1, .int u7)]) (lsame_cons rfl (lsame_cons rfl lsame_nil)) ?_
                exact hj24
          clear h
          have h := hr19
          clear hr19
          refine G_if_eq (tgt := 62) hc dX4_countStock_42 (by decide) (fun c22 => ?_) (fun c22 => ?_)
          · have h := ip h c22
            refine G_iload_n hc dX4_countStock_62 rfl ?_
            have h := Option.some.inj h
            subst h
            refine G_lv (lv' := [(0, .ref h_w), (1, .int u7)]) (lsame_cons rfl (lsame_cons rfl lsame_nil)) ?_
            exact hj18
          · have h := inn h c22
            refine G_aload_n hc dX4_countStock_45 rfl ?_
            refine G_get hc f_X4_59 0 rfl rfl dX4_countStock_46 ?_
            refine G_iload_n hc dX4_countStock_49 rfl ?_
            refine G_iconst (v := 1) hc dX4_countStock_50 (by decide) ?_
            refine G_isub hc dX4_countStock_51 ?_
            obtain ⟨z20, hu21, h⟩ := ob h
            refine G_callNI (ws2 := [(h_w, .inr (4, [.ref h_w_stock, .ref h_w_weight, .ref h_w_known, .ref h_w_found, nv w_measure h_wM, .int w_values, .int w_row, .int w_rowCodes, .int w_table, .int w_length, .int w_full, .int w_pairs, .int w_codes])), (h_w_stock, .inl (cI, 16, .inl u8)), (h_w_weight, .inl (cI, 16, .inl w_weight)), (h_w_known, .inl (cI, 577, .inl w_known)), (h_w_found, .inl (cI, 6347, .inl w_found)), (h_wM, .inr (0, [.int wM_which, .int wM_x, .int wM_y, .int wM_row, .int wM_table]))]) hc m_X4_102 (c_X5_letterOf l D cI cS X F w_row (u7 - (1 : Int32)) hu21) [] (rmok_of (Nat.le_of_ble_eq_true rfl)) ⟨Nat.zero_le _, Nat.zero_le _⟩ rfl rfl rfl rfl rfl ⟨rfl, rfl, rfl⟩ dX4_countStock_52 ?_
            refine G_iconst (v := 4) hc dX4_countStock_55 (by decide) ?_
            refine G_imul hc dX4_countStock_56 ?_
            refine G_iload_n hc dX4_countStock_57 rfl ?_
            refine G_iadd hc dX4_countStock_58 ?_
            refine G_goto (tgt := 63) hc dX4_countStock_59 (by decide) ?_
            have h := Option.some.inj h
            subst h
            refine G_lv (lv' := [(0, .ref h_w), (1, .int u7)]) (lsame_cons rfl (lsame_cons rfl lsame_nil)) ?_
            exact hj18
    refine G_lv (lv' := [(0, .ref h_w), (1, .int t3)]) (lsame_cons rfl (lsame_cons rfl lsame_nil)) ?_
    exact hL11 F _ _ hl10
  clear h
  have h := hr5
  clear hr5
  refine G_if_eq (tgt := 19) hc dX4_countStock_12 (by decide) (fun c6 => ?_) (fun c6 => ?_)
  · have h := ip h c6
    refine G_iconst (v := 0) hc dX4_countStock_19 (by decide) ?_
    have h := Option.some.inj h
    subst h
    refine G_lv (lv' := [(0, .ref h_w)]) (lsame_cons rfl lsame_nil) ?_
    exact hj4
  · have h := inn h c6
    refine G_iconst (v := 1) hc dX4_countStock_15 (by decide) ?_
    refine G_goto (tgt := 20) hc dX4_countStock_16 (by decide) ?_
    have h := Option.some.inj h
    subst h
    refine G_lv (lv' := [(0, .ref h_w)]) (lsame_cons rfl lsame_nil) ?_
    exact hj4
set_option maxHeartbeats 4000000 in
set_option maxRecDepth 100000 in
theorem c_X4_weighStock (l : Launch) (D : va_G) (cI cS : ClassId) (X : XP) (F : Nat) (h_w h_w_stock h_w_weight h_w_known h_w_found h_wM : Nat) (w_measure : Bool) (w_values : Int32) (w_row : Int32) (w_rowCodes : Int32) (w_table : Int32) (w_length : Int32) (w_full : Int32) (w_pairs : Int32) (w_codes : Int32) (w_stock : Nat → Int32) (w_weight : Nat → Int32) (w_known : Nat → Int32) (w_found : Nat → Int32) (wM_which : Int32) (wM_x : Int32) (wM_y : Int32) (wM_row : Int32) (wM_table : Int32) {res : Int32 × (Nat → Int32)} (h : f_X4_weighStock F w_stock w_weight = some res) : CtV l D cI cS X yX4_weighStock cX4_weighStock 3 1 [.ref h_w] [(h_w, .inr (4, [.ref h_w_stock, .ref h_w_weight, .ref h_w_known, .ref h_w_found, nv w_measure h_wM, .int w_values, .int w_row, .int w_rowCodes, .int w_table, .int w_length, .int w_full, .int w_pairs, .int w_codes])), (h_w_stock, .inl (cI, 16, .inl w_stock)), (h_w_weight, .inl (cI, 16, .inl w_weight)), (h_w_known, .inl (cI, 577, .inl w_known)), (h_w_found, .inl (cI, 6347, .inl w_found)), (h_wM, .inr (0, [.int wM_which, .int wM_x, .int wM_y, .int wM_row, .int wM_table]))] (PoV [(h_w, .inr (4, [.ref h_w_stock, .ref h_w_weight, .ref h_w_known, .ref h_w_found, nv w_measure h_wM, .int w_values, .int w_row, .int w_rowCodes, .int w_table, .int w_length, .int res.1, .int w_pairs, .int w_codes])), (h_w_stock, .inl (cI, 16, .inl w_stock)), (h_w_weight, .inl (cI, 16, .inl res.2)), (h_w_known, .inl (cI, 577, .inl w_known)), (h_w_found, .inl (cI, 6347, .inl w_found)), (h_wM, .inr (0, [.int wM_which, .int wM_x, .int wM_y, .int wM_row, .int wM_table]))]) := by
  refine CtV.of (by decide +kernel) rfl ?_
  intro p e s m below meth c A hc
  refine G_lv (lv' := [(0, .ref h_w)]) (lsame_cons rfl lsame_nil) ?_
  unfold f_X4_weighStock at h
  refine G_iconst (v := 1) hc dX4_weighStock_0 (by decide) ?_
  refine G_istore_n (lv' := [(0, .ref h_w), (1, .int (1 : Int32))]) hc dX4_weighStock_1 rfl rfl ?_
  refine G_aload_n hc dX4_weighStock_2 rfl ?_
  refine G_iconst (v := 0) hc dX4_weighStock_3 (by decide) ?_
  refine G_puti (ws' := [(h_w, .inr (4, [.ref h_w_stock, .ref h_w_weight, .ref h_w_known, .ref h_w_found, nv w_measure h_wM, .int w_values, .int w_row, .int w_rowCodes, .int w_table, .int w_length, .int (0 : Int32), .int w_pairs, .int w_codes])), (h_w_stock, .inl (cI, 16, .inl w_stock)), (h_w_weight, .inl (cI, 16, .inl w_weight)), (h_w_known, .inl (cI, 577, .inl w_known)), (h_w_found, .inl (cI, 6347, .inl w_found)), (h_wM, .inr (0, [.int wM_which, .int wM_x, .int wM_y, .int wM_row, .int wM_table]))]) hc f_X4_46 p_X4_10 0 rfl rfl rfl dX4_weighStock_4 ?_
  refine G_iconst (v := 0) hc dX4_weighStock_7 (by decide) ?_
  refine G_istore_n (lv' := [(0, .ref h_w), (1, .int (1 : Int32)), (2, .int (0 : Int32))]) hc dX4_weighStock_8 rfl rfl ?_
  obtain ⟨e5, hl6, h⟩ := ob h
  have hK10 : G p l e (rmk 1) s m [.ref h_w].toArray below meth c D A 3 0 0 (QV below [.ref h_w].toArray s D A (PoV [(h_w, .inr (4, [.ref h_w_stock, .ref h_w_weight, .ref h_w_known, .ref h_w_found, nv w_measure h_wM, .int w_values, .int w_row, .int w_rowCodes, .int w_table, .int w_length, .int res.1, .int w_pairs, .int w_codes])), (h_w_stock, .inl (cI, 16, .inl w_stock)), (h_w_weight, .inl (cI, 16, .inl res.2)), (h_w_known, .inl (cI, 577, .inl w_known)), (h_w_found, .inl (cI, 6347, .inl w_found)), (h_wM, .inr (0, [.int wM_which, .int wM_x, .int wM_y, .int wM_row, .int wM_table]))])) [(h_w, .inr (4, [.ref h_w_stock, .ref h_w_weight, .ref h_w_known, .ref h_w_found, nv w_measure h_wM, .int w_values, .int w_row, .int w_rowCodes, .int w_table, .int w_length, .int e5.2, .int w_pairs, .int w_codes])), (h_w_stock, .inl (cI, 16, .inl w_stock)), (h_w_weight, .inl (cI, 16, .inl e5.1)), (h_w_known, .inl (cI, 577, .inl w_known)), (h_w_found, .inl (cI, 6347, .inl w_found)), (h_wM, .inr (0, [.int wM_which, .int wM_x, .int wM_y, .int wM_row, .int wM_table]))] [] 68 [] := by
    have h := Option.some.inj h
    subst h
    exact G_return hc rfl dX4_weighStock_68
  clear h
  have hL7 : ∀ (n8 : Nat) (u1 : Int32) (u2 : Int32) (u3 : Nat → Int32) (u4 : Int32), f_X4_weighStock_L9 F w_stock n8 u1 u2 u3 u4 = some e5 → G p l e (rmk 1) s m [.ref h_w].toArray below meth c D A 3 0 0 (QV below [.ref h_w].toArray s D A (PoV [(h_w, .inr (4, [.ref h_w_stock, .ref h_w_weight, .ref h_w_known, .ref h_w_found, nv w_measure h_wM, .int w_values, .int w_row, .int w_rowCodes, .int w_table, .int w_length, .int res.1, .int w_pairs, .int w_codes])), (h_w_stock, .inl (cI, 16, .inl w_stock)), (h_w_weight, .inl (cI, 16, .inl res.2)), (h_w_known, .inl (cI, 577, .inl w_known)), (h_w_found, .inl (cI, 6347, .inl w_found)), (h_wM, .inr (0, [.int wM_which, .int wM_x, .int wM_y, .int wM_row, .int wM_table]))])) [(h_w, .inr (4, [.ref h_w_stock, .ref h_w_weight, .ref h_w_known, .ref h_w_found, nv w_measure h_wM, .int w_values, .int w_row, .int w_rowCodes, .int w_table, .int w_length, .int u4, .int w_pairs, .int w_codes])), (h_w_stock, .inl (cI, 16, .inl w_stock)), (h_w_weight, .inl (cI, 16, .inl u3)), (h_w_known, .inl (cI, 577, .inl w_known)), (h_w_found, .inl (cI, 6347, .inl w_found)), (h_wM, .inr (0, [.int wM_which, .int wM_x, .int wM_y, .int wM_row, .int wM_table]))] [(0, .ref h_w), (1, .int u1), (2, .int u2)] 9 [] := by
    intro n8
    induction n8 with
    | zero =>
      intro u1 u2 u3 u4 h
      exact nz h
    | succ n8 ih9 =>
      intro u1 u2 u3 u4 h
      rw [f_X4_weighStock_L9] at h
      refine G_iload_n hc dX4_weighStock_9 rfl ?_
      refine G_aload_n hc dX4_weighStock_10 rfl ?_
      refine G_get hc f_X4_9 0 rfl rfl dX4_weighStock_11 ?_
      refine G_alen (v := 16) hc 1 rfl (by decide) dX4_weighStock_14 ?_
      refine G_icmp_ge (tgt := 68) hc dX4_weighStock_15 (by decide) (fun c18 => ?_) (fun c18 => ?_)
      · have h := ip h c18
        have h := Option.some.inj h
        subst h
        refine G_lv (lv' := []) lsame_nil ?_
        exact hK10
      · have h := inn h c18
        refine G_iload_n hc dX4_weighStock_18 rfl ?_
        refine G_aload_n hc dX4_weighStock_19 rfl ?_
        refine G_get hc f_X4_15 0 rfl rfl dX4_weighStock_20 ?_
        refine G_alen (v := 16) hc 2 rfl (by decide) dX4_weighStock_23 ?_
        refine G_icmp_ge (tgt := 68) hc dX4_weighStock_24 (by decide) (fun c17 => ?_) (fun c17 => ?_)
        · have h := ip h c17
          have h := Option.some.inj h
          subst h
          refine G_lv (lv' := []) lsame_nil ?_
          exact hK10
        · have h := inn h c17
          refine G_aload_n hc dX4_weighStock_27 rfl ?_
          refine G_get hc f_X4_15 0 rfl rfl dX4_weighStock_28 ?_
          refine G_iload_n hc dX4_weighStock_31 rfl ?_
          refine G_iload_n hc dX4_weighStock_32 rfl ?_
          obtain ⟨v11, i_v11, e_v11, h⟩ := wb h
          refine G_iast (ws' := [(h_w, .inr (4, [.ref h_w_stock, .ref h_w_weight, .ref h_w_known, .ref h_w_found, nv w_measure h_wM, .int w_values, .int w_row, .int w_rowCodes, .int w_table, .int w_length, .int u4, .int w_pairs, .int w_codes])), (h_w_stock, .inl (cI, 16, .inl w_stock)), (h_w_weight, .inl (cI, 16, .inl v11)), (h_w_known, .inl (cI, 577, .inl w_known)), (h_w_found, .inl (cI, 6347, .inl w_found)), (h_wM, .inr (0, [.int wM_which, .int wM_x, .int wM_y, .int wM_row, .int wM_table]))]) hc 2 rfl i_v11 e_v11 rfl dX4_weighStock_33 ?_
          refine G_aload_n hc dX4_weighStock_34 rfl ?_
          refine G_dup hc dX4_weighStock_35 rfl ?_
          refine G_get hc f_X4_46 0 rfl rfl dX4_weighStock_36 ?_
          refine G_iload_n hc dX4_weighStock_39 rfl ?_
          refine G_aload_n hc dX4_weighStock_40 rfl ?_
          refine G_get hc f_X4_9 0 rfl rfl dX4_weighStock_41 ?_
          refine G_iload_n hc dX4_weighStock_44 rfl ?_
          obtain ⟨v12, i_v12, e_v12, h⟩ := rb h
          refine G_iald hc 1 rfl i_v12 e_v12 dX4_weighStock_45 ?_
          refine G_imul hc dX4_weighStock_46 ?_
          refine G_iadd hc dX4_weighStock_47 ?_
          obtain ⟨v13, e_v13, h⟩ := sb h
          refine G_top e_v13 ?_
          refine G_puti (ws' := [(h_w, .inr (4, [.ref h_w_stock, .ref h_w_weight, .ref h_w_known, .ref h_w_found, nv w_measure h_wM, .int w_values, .int w_row, .int w_rowCodes, .int w_table, .int w_length, .int v13, .int w_pairs, .int w_codes])), (h_w_stock, .inl (cI, 16, .inl w_stock)), (h_w_weight, .inl (cI, 16, .inl v11)), (h_w_known, .inl (cI, 577, .inl w_known)), (h_w_found, .inl (cI, 6347, .inl w_found)), (h_wM, .inr (0, [.int wM_which, .int wM_x, .int wM_y, .int wM_row, .int wM_table]))]) hc f_X4_46 p_X4_10 0 rfl rfl rfl dX4_weighStock_48 ?_
          refine G_iload_n hc dX4_weighStock_51 rfl ?_
          refine G_aload_n hc dX4_weighStock_52 rfl ?_
          refine G_get hc f_X4_9 0 rfl rfl dX4_weighStock_53 ?_
          refine G_iload_n hc dX4_weighStock_56 rfl ?_
          obtain ⟨v14, i_v14, e_v14, h⟩ := rb h
          refine G_iald hc 1 rfl i_v14 e_v14 dX4_weighStock_57 ?_
          refine G_iconst (v := 1) hc dX4_weighStock_58 (by decide) ?_
          refine G_iadd hc dX4_weighStock_59 ?_
          refine G_imul hc dX4_weighStock_60 ?_
          obtain ⟨v15, e_v15, h⟩ := sb h
          refine G_top e_v15 ?_
          refine G_istore_n (lv' := [(0, .ref h_w), (1, .int v15), (2, .int u2)]) hc dX4_weighStock_61 rfl rfl ?_
          obtain ⟨v16, e_v16, h⟩ := sb h
          refine G_iinc (v := v16) (lv' := [(0, .ref h_w), (1, .int v15), (2, .int v16)]) hc dX4_weighStock_62 rfl (e_v16.trans rfl) rfl rfl ?_
          refine G_goto (tgt := 9) hc dX4_weighStock_65 (by decide) ?_
          refine G_lv (lv' := [(0, .ref h_w), (1, .int v15), (2, .int v16)]) (lsame_cons rfl (lsame_cons rfl (lsame_cons rfl lsame_nil))) ?_
          exact ih9 _ _ _ _ h
  refine G_lv (lv' := [(0, .ref h_w), (1, .int (1 : Int32)), (2, .int (0 : Int32))]) (lsame_cons rfl (lsame_cons rfl (lsame_cons rfl lsame_nil))) ?_
  exact hL7 F _ _ _ _ hl6
set_option maxHeartbeats 4000000 in
set_option maxRecDepth 100000 in
theorem c_X4_prepare (l : Launch) (D : va_G) (cI cS : ClassId) (X : XP) (F : Nat) (h_w h_w_stock h_w_weight h_w_known h_w_found h_wM h_o h_o_book : Nat) (w_measure : Bool) (w_values : Int32) (w_row : Int32) (w_rowCodes : Int32) (w_table : Int32) (w_length : Int32) (w_full : Int32) (w_pairs : Int32) (w_codes : Int32) (w_stock : Nat → Int32) (w_weight : Nat → Int32) (w_known : Nat → Int32) (w_found : Nat → Int32) (wM_which : Int32) (wM_x : Int32) (wM_y : Int32) (wM_row : Int32) (wM_table : Int32) (o_row : Int32) (o_table : Int32) (o_kept : Int32) (o_book : Nat → Int32) {res : Int32 × Int32 × Int32 × Int32 × Int32 × Int32 × (Nat → Int32) × (Nat → Int32) × (Nat → Int32)} (h : f_X4_prepare F w_measure w_pairs w_stock w_weight w_known o_row o_table = some res) : CtV l D cI cS X yX4_prepare cX4_prepare 3 3 [.ref h_w, .ref h_o] [(h_w, .inr (4, [.ref h_w_stock, .ref h_w_weight, .ref h_w_known, .ref h_w_found, nv w_measure h_wM, .int w_values, .int w_row, .int w_rowCodes, .int w_table, .int w_length, .int w_full, .int w_pairs, .int w_codes])), (h_w_stock, .inl (cI, 16, .inl w_stock)), (h_w_weight, .inl (cI, 16, .inl w_weight)), (h_w_known, .inl (cI, 577, .inl w_known)), (h_w_found, .inl (cI, 6347, .inl w_found)), (h_wM, .inr (0, [.int wM_which, .int wM_x, .int wM_y, .int wM_row, .int wM_table])), (h_o, .inr (1, [.int o_row, .int o_table, .int o_kept, .ref h_o_book])), (h_o_book, .inl (cI, 8, .inl o_book))] (PoV [(h_w, .inr (4, [.ref h_w_stock, .ref h_w_weight, .ref h_w_known, .ref h_w_found, nv w_measure h_wM, .int res.1, .int res.2.1, .int res.2.2.1, .int res.2.2.2.1, .int res.2.2.2.2.1, .int res.2.2.2.2.2.1, .int w_pairs, .int w_codes])), (h_w_stock, .inl (cI, 16, .inl res.2.2.2.2.2.2.1)), (h_w_weight, .inl (cI, 16, .inl res.2.2.2.2.2.2.2.1)), (h_w_known, .inl (cI, 577, .inl res.2.2.2.2.2.2.2.2)), (h_w_found, .inl (cI, 6347, .inl w_found)), (h_wM, .inr (0, [.int wM_which, .int wM_x, .int wM_y, .int wM_row, .int wM_table])), (h_o, .inr (1, [.int o_row, .int o_table, .int o_kept, .ref h_o_book])), (h_o_book, .inl (cI, 8, .inl o_book))]) := by
  refine CtV.of (by decide +kernel) rfl ?_
  intro p e s m below meth c A hc
  refine G_lv (lv' := [(0, .ref h_w), (1, .ref h_o)]) (lsame_cons rfl (lsame_cons rfl lsame_nil)) ?_
  unfold f_X4_prepare at h
  refine G_aload_n hc dX4_prepare_0 rfl ?_
  refine G_aload_n hc dX4_prepare_1 rfl ?_
  refine G_get hc f_X4_54 6 rfl rfl dX4_prepare_2 ?_
  refine G_puti (ws' := [(h_w, .inr (4, [.ref h_w_stock, .ref h_w_weight, .ref h_w_known, .ref h_w_found, nv w_measure h_wM, .int w_values, .int o_row, .int w_rowCodes, .int w_table, .int w_length, .int w_full, .int w_pairs, .int w_codes])), (h_w_stock, .inl (cI, 16, .inl w_stock)), (h_w_weight, .inl (cI, 16, .inl w_weight)), (h_w_known, .inl (cI, 577, .inl w_known)), (h_w_found, .inl (cI, 6347, .inl w_found)), (h_wM, .inr (0, [.int wM_which, .int wM_x, .int wM_y, .int wM_row, .int wM_table])), (h_o, .inr (1, [.int o_row, .int o_table, .int o_kept, .ref h_o_book])), (h_o_book, .inl (cI, 8, .inl o_book))]) hc f_X4_59 p_X4_6 0 rfl rfl rfl dX4_prepare_5 ?_
  refine G_aload_n hc dX4_prepare_8 rfl ?_
  refine G_aload_n hc dX4_prepare_9 rfl ?_
  refine G_get hc f_X4_60 6 rfl rfl dX4_prepare_10 ?_
  refine G_puti (ws' := [(h_w, .inr (4, [.ref h_w_stock, .ref h_w_weight, .ref h_w_known, .ref h_w_found, nv w_measure h_wM, .int w_values, .int o_row, .int w_rowCodes, .int o_table, .int w_length, .int w_full, .int w_pairs, .int w_codes])), (h_w_stock, .inl (cI, 16, .inl w_stock)), (h_w_weight, .inl (cI, 16, .inl w_weight)), (h_w_known, .inl (cI, 577, .inl w_known)), (h_w_found, .inl (cI, 6347, .inl w_found)), (h_wM, .inr (0, [.int wM_which, .int wM_x, .int wM_y, .int wM_row, .int wM_table])), (h_o, .inr (1, [.int o_row, .int o_table, .int o_kept, .ref h_o_book])), (h_o_book, .inl (cI, 8, .inl o_book))]) hc f_X4_63 p_X4_8 0 rfl rfl rfl dX4_prepare_13 ?_
  refine G_aload_n hc dX4_prepare_16 rfl ?_
  refine G_aload_n hc dX4_prepare_17 rfl ?_
  refine G_get hc f_X4_59 0 rfl rfl dX4_prepare_18 ?_
  obtain ⟨z1, hu2, h⟩ := ob h
  refine G_callNI (ws2 := [(h_w, .inr (4, [.ref h_w_stock, .ref h_w_weight, .ref h_w_known, .ref h_w_found, nv w_measure h_wM, .int w_values, .int o_row, .int w_rowCodes, .int o_table, .int w_length, .int w_full, .int w_pairs, .int w_codes])), (h_w_stock, .inl (cI, 16, .inl w_stock)), (h_w_weight, .inl (cI, 16, .inl w_weight)), (h_w_known, .inl (cI, 577, .inl w_known)), (h_w_found, .inl (cI, 6347, .inl w_found)), (h_wM, .inr (0, [.int wM_which, .int wM_x, .int wM_y, .int wM_row, .int wM_table])), (h_o, .inr (1, [.int o_row, .int o_table, .int o_kept, .ref h_o_book])), (h_o_book, .inl (cI, 8, .inl o_book))]) hc m_X4_64 (c_X5_lengthOf l D cI cS X F o_row hu2) [] (rmok_of (Nat.le_of_ble_eq_true rfl)) ⟨Nat.zero_le _, Nat.zero_le _⟩ rfl rfl rfl rfl rfl ⟨rfl, rfl, rfl⟩ dX4_prepare_21 ?_
  refine G_puti (ws' := [(h_w, .inr (4, [.ref h_w_stock, .ref h_w_weight, .ref h_w_known, .ref h_w_found, nv w_measure h_wM, .int w_values, .int o_row, .int w_rowCodes, .int o_table, .int z1, .int w_full, .int w_pairs, .int w_codes])), (h_w_stock, .inl (cI, 16, .inl w_stock)), (h_w_weight, .inl (cI, 16, .inl w_weight)), (h_w_known, .inl (cI, 577, .inl w_known)), (h_w_found, .inl (cI, 6347, .inl w_found)), (h_wM, .inr (0, [.int wM_which, .int wM_x, .int wM_y, .int wM_row, .int wM_table])), (h_o, .inr (1, [.int o_row, .int o_table, .int o_kept, .ref h_o_book])), (h_o_book, .inl (cI, 8, .inl o_book))]) hc f_X4_68 p_X4_9 0 rfl rfl rfl dX4_prepare_24 ?_
  refine G_aload_n hc dX4_prepare_27 rfl ?_
  refine G_aload_n hc dX4_prepare_28 rfl ?_
  refine G_get hc f_X4_24 0 rfl rfl dX4_prepare_29 ?_
  obtain ⟨t3, hr5, h⟩ := ob h
  have hj4 : G p l e (rmk 3) s m [.ref h_w, .ref h_o].toArray below meth c D A 3 0 0 (QV below [.ref h_w, .ref h_o].toArray s D A (PoV [(h_w, .inr (4, [.ref h_w_stock, .ref h_w_weight, .ref h_w_known, .ref h_w_found, nv w_measure h_wM, .int res.1, .int res.2.1, .int res.2.2.1, .int res.2.2.2.1, .int res.2.2.2.2.1, .int res.2.2.2.2.2.1, .int w_pairs, .int w_codes])), (h_w_stock, .inl (cI, 16, .inl res.2.2.2.2.2.2.1)), (h_w_weight, .inl (cI, 16, .inl res.2.2.2.2.2.2.2.1)), (h_w_known, .inl (cI, 577, .inl res.2.2.2.2.2.2.2.2)), (h_w_found, .inl (cI, 6347, .inl w_found)), (h_wM, .inr (0, [.int wM_which, .int wM_x, .int wM_y, .int wM_row, .int wM_table])), (h_o, .inr (1, [.int o_row, .int o_table, .int o_kept, .ref h_o_book])), (h_o_book, .inl (cI, 8, .inl o_book))])) [(h_w, .inr (4, [.ref h_w_stock, .ref h_w_weight, .ref h_w_known, .ref h_w_found, nv w_measure h_wM, .int w_values, .int o_row, .int w_rowCodes, .int o_table, .int z1, .int w_full, .int w_pairs, .int w_codes])), (h_w_stock, .inl (cI, 16, .inl w_stock)), (h_w_weight, .inl (cI, 16, .inl w_weight)), (h_w_known, .inl (cI, 577, .inl w_known)), (h_w_found, .inl (cI, 6347, .inl w_found)), (h_wM, .inr (0, [.int wM_which, .int wM_x, .int wM_y, .int wM_row, .int wM_table])), (h_o, .inr (1, [.int o_row, .int o_table, .int o_kept, .ref h_o_book])), (h_o_book, .inl (cI, 8, .inl o_book))] [(0, .ref h_w)] 50 [.int t3, .ref h_w] := by
    refine G_puti (ws' := [(h_w, .inr (4, [.ref h_w_stock, .ref h_w_weight, .ref h_w_known, .ref h_w_found, nv w_measure h_wM, .int t3, .int o_row, .int w_rowCodes, .int o_table, .int z1, .int w_full, .int w_pairs, .int w_codes])), (h_w_stock, .inl (cI, 16, .inl w_stock)), (h_w_weight, .inl (cI, 16, .inl w_weight)), (h_w_known, .inl (cI, 577, .inl w_known)), (h_w_found, .inl (cI, 6347, .inl w_found)), (h_wM, .inr (0, [.int wM_which, .int wM_x, .int wM_y, .int wM_row, .int wM_table])), (h_o, .inr (1, [.int o_row, .int o_table, .int o_kept, .ref h_o_book])), (h_o_book, .inl (cI, 8, .inl o_book))]) hc f_X4_77 p_X4_5 0 rfl rfl rfl dX4_prepare_50 ?_
    refine G_aload_n hc dX4_prepare_53 rfl ?_
    refine G_iconst (v := 0) hc dX4_prepare_54 (by decide) ?_
    refine G_puti (ws' := [(h_w, .inr (4, [.ref h_w_stock, .ref h_w_weight, .ref h_w_known, .ref h_w_found, nv w_measure h_wM, .int t3, .int o_row, .int (0 : Int32), .int o_table, .int z1, .int w_full, .int w_pairs, .int w_codes])), (h_w_stock, .inl (cI, 16, .inl w_stock)), (h_w_weight, .inl (cI, 16, .inl w_weight)), (h_w_known, .inl (cI, 577, .inl w_known)), (h_w_found, .inl (cI, 6347, .inl w_found)), (h_wM, .inr (0, [.int wM_which, .int wM_x, .int wM_y, .int wM_row, .int wM_table])), (h_o, .inr (1, [.int o_row, .int o_table, .int o_kept, .ref h_o_book])), (h_o_book, .inl (cI, 8, .inl o_book))]) hc f_X4_80 p_X4_7 0 rfl rfl rfl dX4_prepare_55 ?_
    refine G_iconst (v := 1) hc dX4_prepare_58 (by decide) ?_
    refine G_istore_n (lv' := [(0, .ref h_w), (2, .int (1 : Int32))]) hc dX4_prepare_59 rfl rfl ?_
    obtain ⟨e9, hl10, h⟩ := ob h
    have hK14 : G p l e (rmk 3) s m [.ref h_w, .ref h_o].toArray below meth c D A 3 0 0 (QV below [.ref h_w, .ref h_o].toArray s D A (PoV [(h_w, .inr (4, [.ref h_w_stock, .ref h_w_weight, .ref h_w_known, .ref h_w_found, nv w_measure h_wM, .int res.1, .int res.2.1, .int res.2.2.1, .int res.2.2.2.1, .int res.2.2.2.2.1, .int res.2.2.2.2.2.1, .int w_pairs, .int w_codes])), (h_w_stock, .inl (cI, 16, .inl res.2.2.2.2.2.2.1)), (h_w_weight, .inl (cI, 16, .inl res.2.2.2.2.2.2.2.1)), (h_w_known, .inl (cI, 577, .inl res.2.2.2.2.2.2.2.2)), (h_w_found, .inl (cI, 6347, .inl w_found)), (h_wM, .inr (0, [.int wM_which, .int wM_x, .int wM_y, .int wM_row, .int wM_table])), (h_o, .inr (1, [.int o_row, .int o_table, .int o_kept, .ref h_o_book])), (h_o_book, .inl (cI, 8, .inl o_book))])) [(h_w, .inr (4, [.ref h_w_stock, .ref h_w_weight, .ref h_w_known, .ref h_w_found, nv w_measure h_wM, .int t3, .int o_row, .int e9, .int o_table, .int z1, .int w_full, .int w_pairs, .int w_codes])), (h_w_stock, .inl (cI, 16, .inl w_stock)), (h_w_weight, .inl (cI, 16, .inl w_weight)), (h_w_known, .inl (cI, 577, .inl w_known)), (h_w_found, .inl (cI, 6347, .inl w_found)), (h_wM, .inr (0, [.int wM_which, .int wM_x, .int wM_y, .int wM_row, .int wM_table])), (h_o, .inr (1, [.int o_row, .int o_table, .int o_kept, .ref h_o_book])), (h_o_book, .inl (cI, 8, .inl o_book))] [(0, .ref h_w)] 97 [] := by
      refine G_aload_n hc dX4_prepare_97 rfl ?_
      obtain ⟨z21, hu22, h⟩ := ob h
      refine G_callVV (ws2 := [(h_w, .inr (4, [.ref h_w_stock, .ref h_w_weight, .ref h_w_known, .ref h_w_found, nv w_measure h_wM, .int t3, .int o_row, .int e9, .int o_table, .int z1, .int w_full, .int w_pairs, .int w_codes])), (h_w_stock, .inl (cI, 16, .inl z21)), (h_w_weight, .inl (cI, 16, .inl w_weight)), (h_w_known, .inl (cI, 577, .inl w_known)), (h_w_found, .inl (cI, 6347, .inl w_found)), (h_wM, .inr (0, [.int wM_which, .int wM_x, .int wM_y, .int wM_row, .int wM_table])), (h_o, .inr (1, [.int o_row, .int o_table, .int o_kept, .ref h_o_book])), (h_o_book, .inl (cI, 8, .inl o_book))]) hc m_X4_90 (c_X4_countStock l D cI cS X F h_w h_w_stock h_w_weight h_w_known h_w_found h_wM w_measure t3 o_row e9 o_table z1 w_full w_pairs w_codes w_stock w_weight w_known w_found wM_which wM_x wM_y wM_row wM_table hu22) 0 [0, 1, 2, 3, 4, 5] rfl rfl (rmok_of (Nat.le_of_ble_eq_true rfl)) ⟨Nat.zero_le _, Nat.zero_le _⟩ rfl rfl rfl rfl rfl ⟨rfl, rfl, rfl⟩ dX4_prepare_98 ?_
      refine G_aload_n hc dX4_prepare_101 rfl ?_
      obtain ⟨z23, hu24, h⟩ := ob h
      refine G_callVV (ws2 := [(h_w, .inr (4, [.ref h_w_stock, .ref h_w_weight, .ref h_w_known, .ref h_w_found, nv w_measure h_wM, .int t3, .int o_row, .int e9, .int o_table, .int z1, .int z23.1, .int w_pairs, .int w_codes])), (h_w_stock, .inl (cI, 16, .inl z21)), (h_w_weight, .inl (cI, 16, .inl z23.2)), (h_w_known, .inl (cI, 577, .inl w_known)), (h_w_found, .inl (cI, 6347, .inl w_found)), (h_wM, .inr (0, [.int wM_which, .int wM_x, .int wM_y, .int wM_row, .int wM_table])), (h_o, .inr (1, [.int o_row, .int o_table, .int o_kept, .ref h_o_book])), (h_o_book, .inl (cI, 8, .inl o_book))]) hc m_X4_93 (c_X4_weighStock l D cI cS X F h_w h_w_stock h_w_weight h_w_known h_w_found h_wM w_measure t3 o_row e9 o_table z1 w_full w_pairs w_codes z21 w_weight w_known w_found wM_which wM_x wM_y wM_row wM_table hu24) 0 [0, 1, 2, 3, 4, 5] rfl rfl (rmok_of (Nat.le_of_ble_eq_true rfl)) ⟨Nat.zero_le _, Nat.zero_le _⟩ rfl rfl rfl rfl rfl ⟨rfl, rfl, rfl⟩ dX4_prepare_102 ?_
      refine G_aload_n hc dX4_prepare_105 rfl ?_
      refine G_get hc f_X4_18 0 rfl rfl dX4_prepare_106 ?_
      refine G_iconst (v := 0) hc dX4_prepare_109 (by decide) ?_
      obtain ⟨z25, hu26, h⟩ := ob h
      refine G_callSV (ws2 := [(h_w, .inr (4, [.ref h_w_stock, .ref h_w_weight, .ref h_w_known, .ref h_w_found, nv w_measure h_wM, .int t3, .int o_row, .int e9, .int o_table, .int z1, .int z23.1, .int w_pairs, .int w_codes])), (h_w_stock, .inl (cI, 16, .inl z21)), (h_w_weight, .inl (cI, 16, .inl z23.2)), (h_w_known, .inl (cI, 577, .inl z25)), (h_w_found, .inl (cI, 6347, .inl w_found)), (h_wM, .inr (0, [.int wM_which, .int wM_x, .int wM_y, .int wM_row, .int wM_table])), (h_o, .inr (1, [.int o_row, .int o_table, .int o_kept, .ref h_o_book])), (h_o_book, .inl (cI, 8, .inl o_book))]) hc m_X4_96 (c_J7_fill_53178 l D cI cS X F h_w_known 577 w_known (0 : Int32) hu26) [3] (rmok_of (Nat.le_of_ble_eq_true rfl)) ⟨Nat.zero_le _, Nat.zero_le _⟩ rfl rfl rfl rfl rfl ⟨rfl, rfl, rfl⟩ dX4_prepare_110 ?_
      have h := Option.some.inj h
      subst h
      exact G_return hc rfl dX4_prepare_113
    clear h
    have hL11 : ∀ (n12 : Nat) (u7 : Int32) (u8 : Int32), f_X4_prepare_L60 F o_row o_table z1 n12 u7 u8 = some e9 → G p l e (rmk 3) s m [.ref h_w, .ref h_o].toArray below meth c D A 3 0 0 (QV below [.ref h_w, .ref h_o].toArray s D A (PoV [(h_w, .inr (4, [.ref h_w_stock, .ref h_w_weight, .ref h_w_known, .ref h_w_found, nv w_measure h_wM, .int res.1, .int res.2.1, .int res.2.2.1, .int res.2.2.2.1, .int res.2.2.2.2.1, .int res.2.2.2.2.2.1, .int w_pairs, .int w_codes])), (h_w_stock, .inl (cI, 16, .inl res.2.2.2.2.2.2.1)), (h_w_weight, .inl (cI, 16, .inl res.2.2.2.2.2.2.2.1)), (h_w_known, .inl (cI, 577, .inl res.2.2.2.2.2.2.2.2)), (h_w_found, .inl (cI, 6347, .inl w_found)), (h_wM, .inr (0, [.int wM_which, .int wM_x, .int wM_y, .int wM_row, .int wM_table])), (h_o, .inr (1, [.int o_row, .int o_table, .int o_kept, .ref h_o_book])), (h_o_book, .inl (cI, 8, .inl o_book))])) [(h_w, .inr (4, [.ref h_w_stock, .ref h_w_weight, .ref h_w_known, .ref h_w_found, nv w_measure h_wM, .int t3, .int o_row, .int u8, .int o_table, .int z1, .int w_full, .int w_pairs, .int w_codes])), (h_w_stock, .inl (cI, 16, .inl w_stock)), (h_w_weight, .inl (cI, 16, .inl w_weight)), (h_w_known, .inl (cI, 577, .inl w_known)), (h_w_found, .inl (cI, 6347, .inl w_found)), (h_wM, .inr (0, [.int wM_which, .int wM_x, .int wM_y, .int wM_row, .int wM_table])), (h_o, .inr (1, [.int o_row, .int o_table, .int o_kept, .ref h_o_book])), (h_o_book, .inl (cI, 8, .inl o_book))] [(0, .ref h_w), (2, .int u7)] 60 [] := by
      intro n12
      induction n12 with
      | zero =>
        intro u7 u8 h
        exact nz h
      | succ n12 ih13 =>
        intro u7 u8 h
        rw [f_X4_prepare_L60] at h
        refine G_iload_n hc dX4_prepare_60 rfl ?_
        refine G_aload_n hc dX4_prepare_61 rfl ?_
        refine G_get hc f_X4_68 0 rfl rfl dX4_prepare_62 ?_
        refine G_icmp_ge (tgt := 97) hc dX4_prepare_65 (by decide) (fun c20 => ?_) (fun c20 => ?_)
        · have h := ip h c20
          have h := Option.some.inj h
          subst h
          refine G_lv (lv' := [(0, .ref h_w)]) (lsame_cons rfl lsame_nil) ?_
          exact hK14
        · have h := inn h c20
          refine G_aload_n hc dX4_prepare_68 rfl ?_
          refine G_aload_n hc dX4_prepare_69 rfl ?_
          refine G_get hc f_X4_80 0 rfl rfl dX4_prepare_70 ?_
          refine G_aload_n hc dX4_prepare_73 rfl ?_
          refine G_get hc f_X4_63 0 rfl rfl dX4_prepare_74 ?_
          refine G_aload_n hc dX4_prepare_77 rfl ?_
          refine G_get hc f_X4_59 0 rfl rfl dX4_prepare_78 ?_
          refine G_iload_n hc dX4_prepare_81 rfl ?_
          obtain ⟨z15, hu16, h⟩ := ob h
          refine G_callNI (ws2 := [(h_w, .inr (4, [.ref h_w_stock, .ref h_w_weight, .ref h_w_known, .ref h_w_found, nv w_measure h_wM, .int t3, .int o_row, .int u8, .int o_table, .int z1, .int w_full, .int w_pairs, .int w_codes])), (h_w_stock, .inl (cI, 16, .inl w_stock)), (h_w_weight, .inl (cI, 16, .inl w_weight)), (h_w_known, .inl (cI, 577, .inl w_known)), (h_w_found, .inl (cI, 6347, .inl w_found)), (h_wM, .inr (0, [.int wM_which, .int wM_x, .int wM_y, .int wM_row, .int wM_table])), (h_o, .inr (1, [.int o_row, .int o_table, .int o_kept, .ref h_o_book])), (h_o_book, .inl (cI, 8, .inl o_book))]) hc m_X4_83 (c_X5_wordCode l D cI cS X F o_table o_row u7 hu16) [] (rmok_of (Nat.le_of_ble_eq_true rfl)) ⟨Nat.zero_le _, Nat.zero_le _⟩ rfl rfl rfl rfl rfl ⟨rfl, rfl, rfl⟩ dX4_prepare_82 ?_
          obtain ⟨z17, hu18, h⟩ := ob h
          refine G_callNI (ws2 := [(h_w, .inr (4, [.ref h_w_stock, .ref h_w_weight, .ref h_w_known, .ref h_w_found, nv w_measure h_wM, .int t3, .int o_row, .int u8, .int o_table, .int z1, .int w_full, .int w_pairs, .int w_codes])), (h_w_stock, .inl (cI, 16, .inl w_stock)), (h_w_weight, .inl (cI, 16, .inl w_weight)), (h_w_known, .inl (cI, 577, .inl w_known)), (h_w_found, .inl (cI, 6347, .inl w_found)), (h_wM, .inr (0, [.int wM_which, .int wM_x, .int wM_y, .int wM_row, .int wM_table])), (h_o, .inr (1, [.int o_row, .int o_table, .int o_kept, .ref h_o_book])), (h_o_book, .inl (cI, 8, .inl o_book))]) hc m_X4_87 (c_X5_longer l D cI cS X F u8 z15 hu18) [] (rmok_of (Nat.le_of_ble_eq_true rfl)) ⟨Nat.zero_le _, Nat.zero_le _⟩ rfl rfl rfl rfl rfl ⟨rfl, rfl, rfl⟩ dX4_prepare_85 ?_
          refine G_puti (ws' := [(h_w, .inr (4, [.ref h_w_stock, .ref h_w_weight, .ref h_w_known, .ref h_w_found, nv w_measure h_wM, .int t3, .int o_row, .int z17, .int o_table, .int z1, .int w_full, .int w_pairs, .int w_codes])), (h_w_stock, .inl (cI, 16, .inl w_stock)), (h_w_weight, .inl (cI, 16, .inl w_weight)), (h_w_known, .inl (cI, 577, .inl w_known)), (h_w_found, .inl (cI, 6347, .inl w_found)), (h_wM, .inr (0, [.int wM_which, .int wM_x, .int wM_y, .int wM_row, .int wM_table])), (h_o, .inr (1, [.int o_row, .int o_table, .int o_kept, .ref h_o_book])), (h_o_book, .inl (cI, 8, .inl o_book))]) hc f_X4_80 p_X4_7 0 rfl rfl rfl dX4_prepare_88 ?_
          obtain ⟨v19, e_v19, h⟩ := sb h
          refine G_iinc (v := v19) (lv' := [(0, .ref h_w), (2, .int v19)]) hc dX4_prepare_91 rfl (e_v19.trans rfl) rfl rfl ?_
          refine G_goto (tgt := 60) hc dX4_prepare_94 (by decide) ?_
          refine G_lv (lv' := [(0, .ref h_w), (2, .int v19)]) (lsame_cons rfl (lsame_cons rfl lsame_nil)) ?_
          exact ih13 _ _ h
    refine G_lv (lv' := [(0, .ref h_w), (2, .int (1 : Int32))]) (lsame_cons rfl (lsame_cons rfl lsame_nil)) ?_
    exact hL11 F _ _ hl10
  clear h
  have h := hr5
  clear hr5
  refine G_nonnullB (tgt := 39) hc dX4_prepare_32 (by decide) (fun c6 => ?_) (fun c6 => ?_)
  · have h := ip h c6
    refine G_aload_n hc dX4_prepare_39 rfl ?_
    refine G_get hc f_X4_68 0 rfl rfl dX4_prepare_40 ?_
    refine G_iconst (v := 1) hc dX4_prepare_43 (by decide) ?_
    refine G_iadd hc dX4_prepare_44 ?_
    refine G_bipush (v := 11) hc dX4_prepare_45 (by decide) ?_
    refine G_min hc m_X4_71 (rmk1 (Nat.le_of_ble_eq_true rfl)) rfl ⟨Nat.zero_le _, Nat.zero_le _⟩ dX4_prepare_47 ?_
    have h := Option.some.inj h
    subst h
    refine G_lv (lv' := [(0, .ref h_w)]) (lsame_cons rfl lsame_nil) ?_
    exact hj4
  · have h := inn h c6
    refine G_iconst (v := 1) hc dX4_prepare_35 (by decide) ?_
    refine G_goto (tgt := 50) hc dX4_prepare_36 (by decide) ?_
    have h := Option.some.inj h
    subst h
    refine G_lv (lv' := [(0, .ref h_w)]) (lsame_cons rfl lsame_nil) ?_
    exact hj4
set_option maxHeartbeats 4000000 in
set_option maxRecDepth 100000 in
theorem c_X4_entryOf (l : Launch) (D : va_G) (cI cS : ClassId) (X : XP) (F : Nat) (h_w h_w_stock h_w_weight h_w_known h_w_found h_wM : Nat) (w_measure : Bool) (w_values : Int32) (w_row : Int32) (w_rowCodes : Int32) (w_table : Int32) (w_length : Int32) (w_full : Int32) (w_pairs : Int32) (w_codes : Int32) (w_stock : Nat → Int32) (w_weight : Nat → Int32) (w_known : Nat → Int32) (w_found : Nat → Int32) (wM_which : Int32) (wM_x : Int32) (wM_y : Int32) (wM_row : Int32) (wM_table : Int32) (a1 : Int32) (a2 : Int32) (a3 : Int32) {res : Int32} (h : f_X4_entryOf F w_pairs a1 a2 a3 = some res) : CtI l D cI cS X yX4_entryOf cX4_entryOf 4 (some .int) 1 [.ref h_w, .int a1, .int a2, .int a3] [(h_w, .inr (4, [.ref h_w_stock, .ref h_w_weight, .ref h_w_known, .ref h_w_found, nv w_measure h_wM, .int w_values, .int w_row, .int w_rowCodes, .int w_table, .int w_length, .int w_full, .int w_pairs, .int w_codes])), (h_w_stock, .inl (cI, 16, .inl w_stock)), (h_w_weight, .inl (cI, 16, .inl w_weight)), (h_w_known, .inl (cI, 577, .inl w_known)), (h_w_found, .inl (cI, 6347, .inl w_found)), (h_wM, .inr (0, [.int wM_which, .int wM_x, .int wM_y, .int wM_row, .int wM_table]))] (PoI res [(h_w, .inr (4, [.ref h_w_stock, .ref h_w_weight, .ref h_w_known, .ref h_w_found, nv w_measure h_wM, .int w_values, .int w_row, .int w_rowCodes, .int w_table, .int w_length, .int w_full, .int w_pairs, .int w_codes])), (h_w_stock, .inl (cI, 16, .inl w_stock)), (h_w_weight, .inl (cI, 16, .inl w_weight)), (h_w_known, .inl (cI, 577, .inl w_known)), (h_w_found, .inl (cI, 6347, .inl w_found)), (h_wM, .inr (0, [.int wM_which, .int wM_x, .int wM_y, .int wM_row, .int wM_table]))]) := by
  refine CtI.of (by decide +kernel) rfl ?_
  intro p e s m below meth c A hc
  refine G_lv (lv' := [(0, .ref h_w), (1, .int a1), (2, .int a2), (3, .int a3)]) (lsame_cons rfl (lsame_cons rfl (lsame_cons rfl (lsame_cons rfl lsame_nil)))) ?_
  unfold f_X4_entryOf at h
  refine G_iload_n hc dX4_entryOf_0 rfl ?_
  refine G_if_ne (tgt := 8) hc dX4_entryOf_1 (by decide) (fun c5 => ?_) (fun c5 => ?_)
  · have h := inn h c5
    refine G_aload_n hc dX4_entryOf_8 rfl ?_
    refine G_get hc f_X4_32 0 rfl rfl dX4_entryOf_9 ?_
    obtain ⟨t1, hr3, h⟩ := ob h
    have hj2 : G p l e (rmk 1) s m [.ref h_w, .int a1, .int a2, .int a3].toArray below meth c D A 4 0 0 (QI below [.ref h_w, .int a1, .int a2, .int a3].toArray s D A (PoI res [(h_w, .inr (4, [.ref h_w_stock, .ref h_w_weight, .ref h_w_known, .ref h_w_found, nv w_measure h_wM, .int w_values, .int w_row, .int w_rowCodes, .int w_table, .int w_length, .int w_full, .int w_pairs, .int w_codes])), (h_w_stock, .inl (cI, 16, .inl w_stock)), (h_w_weight, .inl (cI, 16, .inl w_weight)), (h_w_known, .inl (cI, 577, .inl w_known)), (h_w_found, .inl (cI, 6347, .inl w_found)), (h_wM, .inr (0, [.int wM_which, .int wM_x, .int wM_y, .int wM_row, .int wM_table]))])) [(h_w, .inr (4, [.ref h_w_stock, .ref h_w_weight, .ref h_w_known, .ref h_w_found, nv w_measure h_wM, .int w_values, .int w_row, .int w_rowCodes, .int w_table, .int w_length, .int w_full, .int w_pairs, .int w_codes])), (h_w_stock, .inl (cI, 16, .inl w_stock)), (h_w_weight, .inl (cI, 16, .inl w_weight)), (h_w_known, .inl (cI, 577, .inl w_known)), (h_w_found, .inl (cI, 6347, .inl w_found)), (h_wM, .inr (0, [.int wM_which, .int wM_x, .int wM_y, .int wM_row, .int wM_table]))] [] 24 [.int t1] := by
      have h := Option.some.inj h
      subst h
      exact G_ireturn hc ⟨rfl, rfl⟩ dX4_entryOf_24
    clear h
    have h := hr3
    clear hr3
    refine G_if_eq (tgt := 19) hc dX4_entryOf_12 (by decide) (fun c4 => ?_) (fun c4 => ?_)
    · have h := ip h c4
      refine G_iload_n hc dX4_entryOf_19 rfl ?_
      refine G_iconst (v := 4) hc dX4_entryOf_20 (by decide) ?_
      refine G_imul hc dX4_entryOf_21 ?_
      refine G_iload_n hc dX4_entryOf_22 rfl ?_
      refine G_iadd hc dX4_entryOf_23 ?_
      have h := Option.some.inj h
      subst h
      refine G_lv (lv' := []) lsame_nil ?_
      exact hj2
    · have h := inn h c4
      refine G_iload_n hc dX4_entryOf_15 rfl ?_
      refine G_goto (tgt := 24) hc dX4_entryOf_16 (by decide) ?_
      have h := Option.some.inj h
      subst h
      refine G_lv (lv' := []) lsame_nil ?_
      exact hj2
  · have h := ip h c5
    refine G_sipush (v := 576) hc dX4_entryOf_4 (by decide) ?_
    have h := Option.some.inj h
    subst h
    exact G_ireturn hc ⟨rfl, rfl⟩ dX4_entryOf_7
set_option maxHeartbeats 4000000 in
set_option maxRecDepth 100000 in
theorem c_X4_isKnown (l : Launch) (D : va_G) (cI cS : ClassId) (X : XP) (F : Nat) (h_w h_w_stock h_w_weight h_w_known h_w_found h_wM : Nat) (w_measure : Bool) (w_values : Int32) (w_row : Int32) (w_rowCodes : Int32) (w_table : Int32) (w_length : Int32) (w_full : Int32) (w_pairs : Int32) (w_codes : Int32) (w_stock : Nat → Int32) (w_weight : Nat → Int32) (w_known : Nat → Int32) (w_found : Nat → Int32) (wM_which : Int32) (wM_x : Int32) (wM_y : Int32) (wM_row : Int32) (wM_table : Int32) (a1 : Int32) {res : Int32} (h : f_X4_isKnown F w_known a1 = some res) : CtI l D cI cS X yX4_isKnown cX4_isKnown 2 (some .boolean) 1 [.ref h_w, .int a1] [(h_w, .inr (4, [.ref h_w_stock, .ref h_w_weight, .ref h_w_known, .ref h_w_found, nv w_measure h_wM, .int w_values, .int w_row, .int w_rowCodes, .int w_table, .int w_length, .int w_full, .int w_pairs, .int w_codes])), (h_w_stock, .inl (cI, 16, .inl w_stock)), (h_w_weight, .inl (cI, 16, .inl w_weight)), (h_w_known, .inl (cI, 577, .inl w_known)), (h_w_found, .inl (cI, 6347, .inl w_found)), (h_wM, .inr (0, [.int wM_which, .int wM_x, .int wM_y, .int wM_row, .int wM_table]))] (PoI res [(h_w, .inr (4, [.ref h_w_stock, .ref h_w_weight, .ref h_w_known, .ref h_w_found, nv w_measure h_wM, .int w_values, .int w_row, .int w_rowCodes, .int w_table, .int w_length, .int w_full, .int w_pairs, .int w_codes])), (h_w_stock, .inl (cI, 16, .inl w_stock)), (h_w_weight, .inl (cI, 16, .inl w_weight)), (h_w_known, .inl (cI, 577, .inl w_known)), (h_w_found, .inl (cI, 6347, .inl w_found)), (h_wM, .inr (0, [.int wM_which, .int wM_x, .int wM_y, .int wM_row, .int wM_table]))]) := by
  refine CtI.of (by decide +kernel) rfl ?_
  intro p e s m below meth c A hc
  refine G_lv (lv' := [(0, .ref h_w), (1, .int a1)]) (lsame_cons rfl (lsame_cons rfl lsame_nil)) ?_
  unfold f_X4_isKnown at h
  refine G_iload_n hc dX4_isKnown_0 rfl ?_
  obtain ⟨t1, hr3, h⟩ := ob h
  have hj2 : G p l e (rmk 1) s m [.ref h_w, .int a1].toArray below meth c D A 2 0 0 (QI below [.ref h_w, .int a1].toArray s D A (PoI res [(h_w, .inr (4, [.ref h_w_stock, .ref h_w_weight, .ref h_w_known, .ref h_w_found, nv w_measure h_wM, .int w_values, .int w_row, .int w_rowCodes, .int w_table, .int w_length, .int w_full, .int w_pairs, .int w_codes])), (h_w_stock, .inl (cI, 16, .inl w_stock)), (h_w_weight, .inl (cI, 16, .inl w_weight)), (h_w_known, .inl (cI, 577, .inl w_known)), (h_w_found, .inl (cI, 6347, .inl w_found)), (h_wM, .inr (0, [.int wM_which, .int wM_x, .int wM_y, .int wM_row, .int wM_table]))])) [(h_w, .inr (4, [.ref h_w_stock, .ref h_w_weight, .ref h_w_known, .ref h_w_found, nv w_measure h_wM, .int w_values, .int w_row, .int w_rowCodes, .int w_table, .int w_length, .int w_full, .int w_pairs, .int w_codes])), (h_w_stock, .inl (cI, 16, .inl w_stock)), (h_w_weight, .inl (cI, 16, .inl w_weight)), (h_w_known, .inl (cI, 577, .inl w_known)), (h_w_found, .inl (cI, 6347, .inl w_found)), (h_wM, .inr (0, [.int wM_which, .int wM_x, .int wM_y, .int wM_row, .int wM_table]))] [] 25 [.int t1] := by
    obtain ⟨hz8, h⟩ := zb h
    have h := Option.some.inj h
    subst h
    exact G_zreturn hc hz8 ⟨rfl, rfl⟩ dX4_isKnown_25
  clear h
  have h := hr3
  clear hr3
  refine G_if_lt (tgt := 20) hc dX4_isKnown_1 (by decide) (fun c7 => ?_) (fun c7 => ?_)
  · have h := ip h c7
    refine G_iconst (v := 1) hc dX4_isKnown_20 (by decide) ?_
    refine G_goto (tgt := 25) hc dX4_isKnown_21 (by decide) ?_
    have h := Option.some.inj h
    subst h
    refine G_lv (lv' := []) lsame_nil ?_
    exact hj2
  · have h := inn h c7
    refine G_iload_n hc dX4_isKnown_4 rfl ?_
    refine G_sipush (v := 577) hc dX4_isKnown_5 (by decide) ?_
    refine G_icmp_ge (tgt := 20) hc dX4_isKnown_8 (by decide) (fun c6 => ?_) (fun c6 => ?_)
    · have h := ip h c6
      refine G_iconst (v := 1) hc dX4_isKnown_20 (by decide) ?_
      refine G_goto (tgt := 25) hc dX4_isKnown_21 (by decide) ?_
      have h := Option.some.inj h
      subst h
      refine G_lv (lv' := []) lsame_nil ?_
      exact hj2
    · have h := inn h c6
      refine G_aload_n hc dX4_isKnown_11 rfl ?_
      refine G_get hc f_X4_18 0 rfl rfl dX4_isKnown_12 ?_
      refine G_iload_n hc dX4_isKnown_15 rfl ?_
      obtain ⟨v4, i_v4, e_v4, h⟩ := rb h
      refine G_iald hc 3 rfl i_v4 e_v4 dX4_isKnown_16 ?_
      refine G_if_eq (tgt := 24) hc dX4_isKnown_17 (by decide) (fun c5 => ?_) (fun c5 => ?_)
      · have h := ip h c5
        refine G_iconst (v := 0) hc dX4_isKnown_24 (by decide) ?_
        have h := Option.some.inj h
        subst h
        refine G_lv (lv' := []) lsame_nil ?_
        exact hj2
      · have h := inn h c5
        refine G_iconst (v := 1) hc dX4_isKnown_20 (by decide) ?_
        refine G_goto (tgt := 25) hc dX4_isKnown_21 (by decide) ?_
        have h := Option.some.inj h
        subst h
        refine G_lv (lv' := []) lsame_nil ?_
        exact hj2
set_option maxHeartbeats 4000000 in
set_option maxRecDepth 100000 in
theorem c_X4_begin (l : Launch) (D : va_G) (cI cS : ClassId) (X : XP) (F : Nat) (h_w h_w_stock h_w_weight h_w_known h_w_found h_wM : Nat) (w_measure : Bool) (w_values : Int32) (w_row : Int32) (w_rowCodes : Int32) (w_table : Int32) (w_length : Int32) (w_full : Int32) (w_pairs : Int32) (w_codes : Int32) (w_stock : Nat → Int32) (w_weight : Nat → Int32) (w_known : Nat → Int32) (w_found : Nat → Int32) (wM_which : Int32) (wM_x : Int32) (wM_y : Int32) (wM_row : Int32) (wM_table : Int32) (a1 : Int32) {res : (Nat → Int32) × (Nat → Int32)} (h : f_X4_begin F w_known w_found a1 = some res) : CtV l D cI cS X yX4_begin cX4_begin 4 1 [.ref h_w, .int a1] [(h_w, .inr (4, [.ref h_w_stock, .ref h_w_weight, .ref h_w_known, .ref h_w_found, nv w_measure h_wM, .int w_values, .int w_row, .int w_rowCodes, .int w_table, .int w_length, .int w_full, .int w_pairs, .int w_codes])), (h_w_stock, .inl (cI, 16, .inl w_stock)), (h_w_weight, .inl (cI, 16, .inl w_weight)), (h_w_known, .inl (cI, 577, .inl w_known)), (h_w_found, .inl (cI, 6347, .inl w_found)), (h_wM, .inr (0, [.int wM_which, .int wM_x, .int wM_y, .int wM_row, .int wM_table]))] (PoV [(h_w, .inr (4, [.ref h_w_stock, .ref h_w_weight, .ref h_w_known, .ref h_w_found, nv w_measure h_wM, .int w_values, .int w_row, .int w_rowCodes, .int w_table, .int w_length, .int w_full, .int w_pairs, .int w_codes])), (h_w_stock, .inl (cI, 16, .inl w_stock)), (h_w_weight, .inl (cI, 16, .inl w_weight)), (h_w_known, .inl (cI, 577, .inl res.1)), (h_w_found, .inl (cI, 6347, .inl res.2)), (h_wM, .inr (0, [.int wM_which, .int wM_x, .int wM_y, .int wM_row, .int wM_table]))]) := by
  refine CtV.of (by decide +kernel) rfl ?_
  intro p e s m below meth c A hc
  refine G_lv (lv' := [(0, .ref h_w), (1, .int a1)]) (lsame_cons rfl (lsame_cons rfl lsame_nil)) ?_
  unfold f_X4_begin at h
  refine G_iload_n hc dX4_begin_0 rfl ?_
  refine G_if_lt (tgt := 11) hc dX4_begin_1 (by decide) (fun c16 => ?_) (fun c16 => ?_)
  · have h := ip h c16
    have h := Option.some.inj h
    subst h
    exact G_return hc rfl dX4_begin_11
  · have h := inn h c16
    refine G_iload_n hc dX4_begin_4 rfl ?_
    refine G_sipush (v := 577) hc dX4_begin_5 (by decide) ?_
    refine G_icmp_lt (tgt := 12) hc dX4_begin_8 (by decide) (fun c15 => ?_) (fun c15 => ?_)
    · have h := ip h c15
      refine G_aload_n hc dX4_begin_12 rfl ?_
      refine G_get hc f_X4_18 0 rfl rfl dX4_begin_13 ?_
      refine G_iload_n hc dX4_begin_16 rfl ?_
      refine G_iconst (v := 1) hc dX4_begin_17 (by decide) ?_
      obtain ⟨v1, i_v1, e_v1, h⟩ := wb h
      refine G_iast (ws' := [(h_w, .inr (4, [.ref h_w_stock, .ref h_w_weight, .ref h_w_known, .ref h_w_found, nv w_measure h_wM, .int w_values, .int w_row, .int w_rowCodes, .int w_table, .int w_length, .int w_full, .int w_pairs, .int w_codes])), (h_w_stock, .inl (cI, 16, .inl w_stock)), (h_w_weight, .inl (cI, 16, .inl w_weight)), (h_w_known, .inl (cI, 577, .inl v1)), (h_w_found, .inl (cI, 6347, .inl w_found)), (h_wM, .inr (0, [.int wM_which, .int wM_x, .int wM_y, .int wM_row, .int wM_table]))]) hc 3 rfl i_v1 e_v1 rfl dX4_begin_18 ?_
      refine G_iload_n hc dX4_begin_19 rfl ?_
      refine G_bipush (v := 11) hc dX4_begin_20 (by decide) ?_
      refine G_imul hc dX4_begin_22 ?_
      obtain ⟨v2, e_v2, h⟩ := sb h
      refine G_top e_v2 ?_
      refine G_istore_n (lv' := [(0, .ref h_w), (1, .int a1), (2, .int v2)]) hc dX4_begin_23 rfl rfl ?_
      refine G_iload_n hc dX4_begin_24 rfl ?_
      refine G_istore_n (lv' := [(0, .ref h_w), (1, .int a1), (2, .int v2), (3, .int v2)]) hc dX4_begin_25 rfl rfl ?_
      obtain ⟨e5, hl6, h⟩ := ob h
      have hK10 : G p l e (rmk 1) s m [.ref h_w, .int a1].toArray below meth c D A 4 0 0 (QV below [.ref h_w, .int a1].toArray s D A (PoV [(h_w, .inr (4, [.ref h_w_stock, .ref h_w_weight, .ref h_w_known, .ref h_w_found, nv w_measure h_wM, .int w_values, .int w_row, .int w_rowCodes, .int w_table, .int w_length, .int w_full, .int w_pairs, .int w_codes])), (h_w_stock, .inl (cI, 16, .inl w_stock)), (h_w_weight, .inl (cI, 16, .inl w_weight)), (h_w_known, .inl (cI, 577, .inl res.1)), (h_w_found, .inl (cI, 6347, .inl res.2)), (h_wM, .inr (0, [.int wM_which, .int wM_x, .int wM_y, .int wM_row, .int wM_table]))])) [(h_w, .inr (4, [.ref h_w_stock, .ref h_w_weight, .ref h_w_known, .ref h_w_found, nv w_measure h_wM, .int w_values, .int w_row, .int w_rowCodes, .int w_table, .int w_length, .int w_full, .int w_pairs, .int w_codes])), (h_w_stock, .inl (cI, 16, .inl w_stock)), (h_w_weight, .inl (cI, 16, .inl w_weight)), (h_w_known, .inl (cI, 577, .inl v1)), (h_w_found, .inl (cI, 6347, .inl e5)), (h_wM, .inr (0, [.int wM_which, .int wM_x, .int wM_y, .int wM_row, .int wM_table]))] [] 56 [] := by
        have h := Option.some.inj h
        subst h
        exact G_return hc rfl dX4_begin_56
      clear h
      have hL7 : ∀ (n8 : Nat) (u3 : Int32) (u4 : Nat → Int32), f_X4_begin_L26 F v2 n8 u3 u4 = some e5 → G p l e (rmk 1) s m [.ref h_w, .int a1].toArray below meth c D A 4 0 0 (QV below [.ref h_w, .int a1].toArray s D A (PoV [(h_w, .inr (4, [.ref h_w_stock, .ref h_w_weight, .ref h_w_known, .ref h_w_found, nv w_measure h_wM, .int w_values, .int w_row, .int w_rowCodes, .int w_table, .int w_length, .int w_full, .int w_pairs, .int w_codes])), (h_w_stock, .inl (cI, 16, .inl w_stock)), (h_w_weight, .inl (cI, 16, .inl w_weight)), (h_w_known, .inl (cI, 577, .inl res.1)), (h_w_found, .inl (cI, 6347, .inl res.2)), (h_wM, .inr (0, [.int wM_which, .int wM_x, .int wM_y, .int wM_row, .int wM_table]))])) [(h_w, .inr (4, [.ref h_w_stock, .ref h_w_weight, .ref h_w_known, .ref h_w_found, nv w_measure h_wM, .int w_values, .int w_row, .int w_rowCodes, .int w_table, .int w_length, .int w_full, .int w_pairs, .int w_codes])), (h_w_stock, .inl (cI, 16, .inl w_stock)), (h_w_weight, .inl (cI, 16, .inl w_weight)), (h_w_known, .inl (cI, 577, .inl v1)), (h_w_found, .inl (cI, 6347, .inl u4)), (h_wM, .inr (0, [.int wM_which, .int wM_x, .int wM_y, .int wM_row, .int wM_table]))] [(0, .ref h_w), (2, .int v2), (3, .int u3)] 26 [] := by
        intro n8
        induction n8 with
        | zero =>
          intro u3 u4 h
          exact nz h
        | succ n8 ih9 =>
          intro u3 u4 h
          rw [f_X4_begin_L26] at h
          refine G_iload_n hc dX4_begin_26 rfl ?_
          refine G_iload_n hc dX4_begin_27 rfl ?_
          refine G_bipush (v := 11) hc dX4_begin_28 (by decide) ?_
          refine G_iadd hc dX4_begin_30 ?_
          refine G_icmp_ge (tgt := 56) hc dX4_begin_31 (by decide) (fun c14 => ?_) (fun c14 => ?_)
          · have h := ip h c14
            have h := Option.some.inj h
            subst h
            refine G_lv (lv' := []) lsame_nil ?_
            exact hK10
          · have h := inn h c14
            refine G_iload_n hc dX4_begin_34 rfl ?_
            refine G_aload_n hc dX4_begin_35 rfl ?_
            refine G_get hc f_X4_21 0 rfl rfl dX4_begin_36 ?_
            refine G_alen (v := 6347) hc 4 rfl (by decide) dX4_begin_39 ?_
            refine G_icmp_ge (tgt := 56) hc dX4_begin_40 (by decide) (fun c13 => ?_) (fun c13 => ?_)
            · have h := ip h c13
              have h := Option.some.inj h
              subst h
              refine G_lv (lv' := []) lsame_nil ?_
              exact hK10
            · have h := inn h c13
              refine G_aload_n hc dX4_begin_43 rfl ?_
              refine G_get hc f_X4_21 0 rfl rfl dX4_begin_44 ?_
              refine G_iload_n hc dX4_begin_47 rfl ?_
              refine G_iconst (v := 0) hc dX4_begin_48 (by decide) ?_
              obtain ⟨v11, i_v11, e_v11, h⟩ := wb h
              refine G_iast (ws' := [(h_w, .inr (4, [.ref h_w_stock, .ref h_w_weight, .ref h_w_known, .ref h_w_found, nv w_measure h_wM, .int w_values, .int w_row, .int w_rowCodes, .int w_table, .int w_length, .int w_full, .int w_pairs, .int w_codes])), (h_w_stock, .inl (cI, 16, .inl w_stock)), (h_w_weight, .inl (cI, 16, .inl w_weight)), (h_w_known, .inl (cI, 577, .inl v1)), (h_w_found, .inl (cI, 6347, .inl v11)), (h_wM, .inr (0, [.int wM_which, .int wM_x, .int wM_y, .int wM_row, .int wM_table]))]) hc 4 rfl i_v11 e_v11 rfl dX4_begin_49 ?_
              obtain ⟨v12, e_v12, h⟩ := sb h
              refine G_iinc (v := v12) (lv' := [(0, .ref h_w), (2, .int v2), (3, .int v12)]) hc dX4_begin_50 rfl (e_v12.trans rfl) rfl rfl ?_
              refine G_goto (tgt := 26) hc dX4_begin_53 (by decide) ?_
              refine G_lv (lv' := [(0, .ref h_w), (2, .int v2), (3, .int v12)]) (lsame_cons rfl (lsame_cons rfl (lsame_cons rfl lsame_nil))) ?_
              exact ih9 _ _ h
      refine G_lv (lv' := [(0, .ref h_w), (2, .int v2), (3, .int v2)]) (lsame_cons rfl (lsame_cons rfl (lsame_cons rfl lsame_nil))) ?_
      exact hL7 F _ _ hl6
    · have h := inn h c15
      have h := Option.some.inj h
      subst h
      exact G_return hc rfl dX4_begin_11
set_option maxHeartbeats 4000000 in
set_option maxRecDepth 100000 in
theorem c_X4_leftWithout (l : Launch) (D : va_G) (cI cS : ClassId) (X : XP) (F : Nat) (h_w h_w_stock h_w_weight h_w_known h_w_found h_wM : Nat) (w_measure : Bool) (w_values : Int32) (w_row : Int32) (w_rowCodes : Int32) (w_table : Int32) (w_length : Int32) (w_full : Int32) (w_pairs : Int32) (w_codes : Int32) (w_stock : Nat → Int32) (w_weight : Nat → Int32) (w_known : Nat → Int32) (w_found : Nat → Int32) (wM_which : Int32) (wM_x : Int32) (wM_y : Int32) (wM_row : Int32) (wM_table : Int32) (a1 : Int32) (a2 : Int32) {res : Int32} (h : f_X4_leftWithout F w_stock w_weight a1 a2 = some res) : CtI l D cI cS X yX4_leftWithout cX4_leftWithout 5 (some .int) 1 [.ref h_w, .int a1, .int a2] [(h_w, .inr (4, [.ref h_w_stock, .ref h_w_weight, .ref h_w_known, .ref h_w_found, nv w_measure h_wM, .int w_values, .int w_row, .int w_rowCodes, .int w_table, .int w_length, .int w_full, .int w_pairs, .int w_codes])), (h_w_stock, .inl (cI, 16, .inl w_stock)), (h_w_weight, .inl (cI, 16, .inl w_weight)), (h_w_known, .inl (cI, 577, .inl w_known)), (h_w_found, .inl (cI, 6347, .inl w_found)), (h_wM, .inr (0, [.int wM_which, .int wM_x, .int wM_y, .int wM_row, .int wM_table]))] (PoI res [(h_w, .inr (4, [.ref h_w_stock, .ref h_w_weight, .ref h_w_known, .ref h_w_found, nv w_measure h_wM, .int w_values, .int w_row, .int w_rowCodes, .int w_table, .int w_length, .int w_full, .int w_pairs, .int w_codes])), (h_w_stock, .inl (cI, 16, .inl w_stock)), (h_w_weight, .inl (cI, 16, .inl w_weight)), (h_w_known, .inl (cI, 577, .inl w_known)), (h_w_found, .inl (cI, 6347, .inl w_found)), (h_wM, .inr (0, [.int wM_which, .int wM_x, .int wM_y, .int wM_row, .int wM_table]))]) := by
  refine CtI.of (by decide +kernel) rfl ?_
  intro p e s m below meth c A hc
  refine G_lv (lv' := [(0, .ref h_w), (1, .int a1), (2, .int a2)]) (lsame_cons rfl (lsame_cons rfl (lsame_cons rfl lsame_nil))) ?_
  unfold f_X4_leftWithout at h
  refine G_iload_n hc dX4_leftWithout_0 rfl ?_
  refine G_if_lt (tgt := 26) hc dX4_leftWithout_1 (by decide) (fun c15 => ?_) (fun c15 => ?_)
  · have h := ip h c15
    refine G_iconst (v := -1) hc dX4_leftWithout_26 (by decide) ?_
    have h := Option.some.inj h
    subst h
    exact G_ireturn hc ⟨rfl, rfl⟩ dX4_leftWithout_27
  · have h := inn h c15
    refine G_iload_n hc dX4_leftWithout_4 rfl ?_
    refine G_aload_n hc dX4_leftWithout_5 rfl ?_
    refine G_get hc f_X4_15 0 rfl rfl dX4_leftWithout_6 ?_
    refine G_alen (v := 16) hc 2 rfl (by decide) dX4_leftWithout_9 ?_
    refine G_icmp_ge (tgt := 26) hc dX4_leftWithout_10 (by decide) (fun c14 => ?_) (fun c14 => ?_)
    · have h := ip h c14
      refine G_iconst (v := -1) hc dX4_leftWithout_26 (by decide) ?_
      have h := Option.some.inj h
      subst h
      exact G_ireturn hc ⟨rfl, rfl⟩ dX4_leftWithout_27
    · have h := inn h c14
      refine G_iload_n hc dX4_leftWithout_13 rfl ?_
      refine G_aload_n hc dX4_leftWithout_14 rfl ?_
      refine G_get hc f_X4_9 0 rfl rfl dX4_leftWithout_15 ?_
      refine G_alen (v := 16) hc 1 rfl (by decide) dX4_leftWithout_18 ?_
      refine G_icmp_ge (tgt := 26) hc dX4_leftWithout_19 (by decide) (fun c13 => ?_) (fun c13 => ?_)
      · have h := ip h c13
        refine G_iconst (v := -1) hc dX4_leftWithout_26 (by decide) ?_
        have h := Option.some.inj h
        subst h
        exact G_ireturn hc ⟨rfl, rfl⟩ dX4_leftWithout_27
      · have h := inn h c13
        refine G_iload_n hc dX4_leftWithout_22 rfl ?_
        refine G_if_ge (tgt := 28) hc dX4_leftWithout_23 (by decide) (fun c12 => ?_) (fun c12 => ?_)
        · have h := ip h c12
          refine G_aload_n hc dX4_leftWithout_28 rfl ?_
          refine G_get hc f_X4_15 0 rfl rfl dX4_leftWithout_29 ?_
          refine G_iload_n hc dX4_leftWithout_32 rfl ?_
          obtain ⟨v1, i_v1, e_v1, h⟩ := rb h
          refine G_iald hc 2 rfl i_v1 e_v1 dX4_leftWithout_33 ?_
          refine G_istore_n (lv' := [(0, .ref h_w), (1, .int a1), (2, .int a2), (3, .int v1)]) hc dX4_leftWithout_34 rfl rfl ?_
          refine G_aload_n hc dX4_leftWithout_35 rfl ?_
          refine G_get hc f_X4_9 0 rfl rfl dX4_leftWithout_36 ?_
          refine G_iload_n hc dX4_leftWithout_39 rfl ?_
          obtain ⟨v2, i_v2, e_v2, h⟩ := rb h
          refine G_iald hc 1 rfl i_v2 e_v2 dX4_leftWithout_40 ?_
          refine G_iconst (v := 1) hc dX4_leftWithout_41 (by decide) ?_
          refine G_iadd hc dX4_leftWithout_42 ?_
          obtain ⟨v3, e_v3, h⟩ := sb h
          refine G_top e_v3 ?_
          refine G_istore (lv' := [(0, .ref h_w), (1, .int a1), (2, .int a2), (3, .int v1), (4, .int v3)]) hc dX4_leftWithout_43 rfl rfl ?_
          refine G_iload_n hc dX4_leftWithout_45 rfl ?_
          refine G_iconst (v := 1) hc dX4_leftWithout_46 (by decide) ?_
          refine G_icmp_lt (tgt := 56) hc dX4_leftWithout_47 (by decide) (fun c11 => ?_) (fun c11 => ?_)
          · have h := ip h c11
            refine G_iconst (v := -1) hc dX4_leftWithout_56 (by decide) ?_
            have h := Option.some.inj h
            subst h
            exact G_ireturn hc ⟨rfl, rfl⟩ dX4_leftWithout_57
          · have h := inn h c11
            refine G_iload hc dX4_leftWithout_50 rfl ?_
            refine G_iconst (v := 1) hc dX4_leftWithout_52 (by decide) ?_
            refine G_icmp_ge (tgt := 58) hc dX4_leftWithout_53 (by decide) (fun c10 => ?_) (fun c10 => ?_)
            · have h := ip h c10
              refine G_iload_n hc dX4_leftWithout_58 rfl ?_
              refine G_iload_n hc dX4_leftWithout_59 rfl ?_
              obtain ⟨hz4, h⟩ := db h
              refine G_idiv hc dX4_leftWithout_60 hz4 ?_
              refine G_iload hc dX4_leftWithout_61 rfl ?_
              obtain ⟨hz5, h⟩ := db h
              refine G_irem hc dX4_leftWithout_63 hz5 ?_
              obtain ⟨t6, hr8, h⟩ := ob h
              have hj7 : G p l e (rmk 1) s m [.ref h_w, .int a1, .int a2].toArray below meth c D A 5 0 0 (QI below [.ref h_w, .int a1, .int a2].toArray s D A (PoI res [(h_w, .inr (4, [.ref h_w_stock, .ref h_w_weight, .ref h_w_known, .ref h_w_found, nv w_measure h_wM, .int w_values, .int w_row, .int w_rowCodes, .int w_table, .int w_length, .int w_full, .int w_pairs, .int w_codes])), (h_w_stock, .inl (cI, 16, .inl w_stock)), (h_w_weight, .inl (cI, 16, .inl w_weight)), (h_w_known, .inl (cI, 577, .inl w_known)), (h_w_found, .inl (cI, 6347, .inl w_found)), (h_wM, .inr (0, [.int wM_which, .int wM_x, .int wM_y, .int wM_row, .int wM_table]))])) [(h_w, .inr (4, [.ref h_w_stock, .ref h_w_weight, .ref h_w_known, .ref h_w_found, nv w_measure h_wM, .int w_values, .int w_row, .int w_rowCodes, .int w_table, .int w_length, .int w_full, .int w_pairs, .int w_codes])), (h_w_stock, .inl (cI, 16, .inl w_stock)), (h_w_weight, .inl (cI, 16, .inl w_weight)), (h_w_known, .inl (cI, 577, .inl w_known)), (h_w_found, .inl (cI, 6347, .inl w_found)), (h_wM, .inr (0, [.int wM_which, .int wM_x, .int wM_y, .int wM_row, .int wM_table]))] [] 74 [.int t6] := by
                have h := Option.some.inj h
                subst h
                exact G_ireturn hc ⟨rfl, rfl⟩ dX4_leftWithout_74
              clear h
              have h := hr8
              clear hr8
              refine G_if_le (tgt := 73) hc dX4_leftWithout_64 (by decide) (fun c9 => ?_) (fun c9 => ?_)
              · have h := ip h c9
                refine G_iconst (v := -1) hc dX4_leftWithout_73 (by decide) ?_
                have h := Option.some.inj h
                subst h
                refine G_lv (lv' := []) lsame_nil ?_
                exact hj7
              · have h := inn h c9
                refine G_iload_n hc dX4_leftWithout_67 rfl ?_
                refine G_iload_n hc dX4_leftWithout_68 rfl ?_
                refine G_isub hc dX4_leftWithout_69 ?_
                refine G_goto (tgt := 74) hc dX4_leftWithout_70 (by decide) ?_
                have h := Option.some.inj h
                subst h
                refine G_lv (lv' := []) lsame_nil ?_
                exact hj7
            · have h := inn h c10
              refine G_iconst (v := -1) hc dX4_leftWithout_56 (by decide) ?_
              have h := Option.some.inj h
              subst h
              exact G_ireturn hc ⟨rfl, rfl⟩ dX4_leftWithout_57
        · have h := inn h c12
          refine G_iconst (v := -1) hc dX4_leftWithout_26 (by decide) ?_
          have h := Option.some.inj h
          subst h
          exact G_ireturn hc ⟨rfl, rfl⟩ dX4_leftWithout_27
