set_option maxHeartbeats 4000000 in
set_option maxRecDepth 100000 in
theorem c_X5_lengthOf (l : Launch) (D : va_G) (cI cS : ClassId) (X : XP) (F : Nat) (a0 : Int32) {res : Int32} (h : f_X5_lengthOf F a0 = some res) : CtI l D cI cS X yX5_lengthOf cX5_lengthOf 1 (some .int) 1 [.int a0] [] (PoI res []) := by
  refine CtI.of (by decide +kernel) rfl ?_
  intro p e s m below meth c A hc
  refine G_lv (lv' := [(0, .int a0)]) (lsame_cons rfl lsame_nil) ?_
  unfold f_X5_lengthOf at h
  refine G_iload_n hc dX5_lengthOf_0 rfl ?_
  refine G_bipush (v := 20) hc dX5_lengthOf_1 (by decide) ?_
  refine G_iushr hc dX5_lengthOf_3 ?_
  have h := Option.some.inj h
  subst h
  exact G_ireturn hc ⟨rfl, rfl⟩ dX5_lengthOf_4
set_option maxHeartbeats 4000000 in
set_option maxRecDepth 100000 in
theorem c_X5_letterOf (l : Launch) (D : va_G) (cI cS : ClassId) (X : XP) (F : Nat) (a0 : Int32) (a1 : Int32) {res : Int32} (h : f_X5_letterOf F a0 a1 = some res) : CtI l D cI cS X yX5_letterOf cX5_letterOf 2 (some .int) 1 [.int a0, .int a1] [] (PoI res []) := by
  refine CtI.of (by decide +kernel) rfl ?_
  intro p e s m below meth c A hc
  refine G_lv (lv' := [(0, .int a0), (1, .int a1)]) (lsame_cons rfl (lsame_cons rfl lsame_nil)) ?_
  unfold f_X5_letterOf at h
  refine G_iload_n hc dX5_letterOf_0 rfl ?_
  refine G_iconst (v := 2) hc dX5_letterOf_1 (by decide) ?_
  refine G_iload_n hc dX5_letterOf_2 rfl ?_
  refine G_imul hc dX5_letterOf_3 ?_
  refine G_iushr hc dX5_letterOf_4 ?_
  refine G_iconst (v := 3) hc dX5_letterOf_5 (by decide) ?_
  refine G_iand hc dX5_letterOf_6 ?_
  have h := Option.some.inj h
  subst h
  exact G_ireturn hc ⟨rfl, rfl⟩ dX5_letterOf_7
set_option maxHeartbeats 4000000 in
set_option maxRecDepth 100000 in
theorem c_X5_letterAt (l : Launch) (D : va_G) (cI cS : ClassId) (X : XP) (F : Nat) (h_x h_x_now h_x_now_book h_x_text h_x_text_signs h_x_trial h_x_trial_state h_x_trial_state_book h_x_ways h_x_ways_stock h_x_ways_weight h_x_ways_known h_x_ways_found h_x_measured h_x_pairCounts h_past : Nat) (x_pastStates : Int32) (x_now_row : Int32) (x_now_table : Int32) (x_now_kept : Int32) (x_now_book : Nat → Int32) (x_text_length : Int32) (x_text_word : Int32) (x_text_kind : Int32) (x_text_number : Int32) (x_text_row : Int32) (x_text_reached : Int32) (x_text_broken : Int32) (x_text_signs : Nat → Int32) (x_trial_orders : Int32) (x_trial_position : Int32) (x_trial_reason : Int32) (x_trial_cause : Int32) (x_trial_state_row : Int32) (x_trial_state_table : Int32) (x_trial_state_kept : Int32) (x_trial_state_book : Nat → Int32) (x_ways_measure : Bool) (x_ways_values : Int32) (x_ways_row : Int32) (x_ways_rowCodes : Int32) (x_ways_table : Int32) (x_ways_length : Int32) (x_ways_full : Int32) (x_ways_pairs : Int32) (x_ways_codes : Int32) (x_ways_stock : Nat → Int32) (x_ways_weight : Nat → Int32) (x_ways_known : Nat → Int32) (x_ways_found : Nat → Int32) (x_measured_which : Int32) (x_measured_x : Int32) (x_measured_y : Int32) (x_measured_row : Int32) (x_measured_table : Int32) (x_pairCounts : Nat → Int32) (a1 : Int32) {res : Int32} (h : f_X5_letterAt F x_now_row a1 = some res) : CtI l D cI cS X yX5_letterAt cX5_letterAt 2 (some .int) 2 [.ref h_x, .int a1] [(h_x, .inr (5, [.ref h_x_now, .ref h_past, .int x_pastStates, .ref h_x_text, .ref h_x_trial, .ref h_x_ways, .ref h_x_measured, .ref h_x_pairCounts])), (h_x_now, .inr (1, [.int x_now_row, .int x_now_table, .int x_now_kept, .ref h_x_now_book])), (h_x_now_book, .inl (cI, 8, .inl x_now_book)), (h_x_text, .inr (2, [.ref h_x_text_signs, .int x_text_length, .int x_text_word, .int x_text_kind, .int x_text_number, .int x_text_row, .int x_text_reached, .int x_text_broken])), (h_x_text_signs, .inl (cI, 60, .inl x_text_signs)), (h_x_trial, .inr (3, [.ref h_x_trial_state, .int x_trial_orders, .int x_trial_position, .int x_trial_reason, .int x_trial_cause])), (h_x_trial_state, .inr (1, [.int x_trial_state_row, .int x_trial_state_table, .int x_trial_state_kept, .ref h_x_trial_state_book])), (h_x_trial_state_book, .inl (cI, 8, .inl x_trial_state_book)), (h_x_ways, .inr (4, [.ref h_x_ways_stock, .ref h_x_ways_weight, .ref h_x_ways_known, .ref h_x_ways_found, nv x_ways_measure h_x_measured, .int x_ways_values, .int x_ways_row, .int x_ways_rowCodes, .int x_ways_table, .int x_ways_length, .int x_ways_full, .int x_ways_pairs, .int x_ways_codes])), (h_x_ways_stock, .inl (cI, 16, .inl x_ways_stock)), (h_x_ways_weight, .inl (cI, 16, .inl x_ways_weight)), (h_x_ways_known, .inl (cI, 577, .inl x_ways_known)), (h_x_ways_found, .inl (cI, 6347, .inl x_ways_found)), (h_x_measured, .inr (0, [.int x_measured_which, .int x_measured_x, .int x_measured_y, .int x_measured_row, .int x_measured_table])), (h_x_pairCounts, .inl (cI, 16, .inl x_pairCounts))] (PoI res [(h_x, .inr (5, [.ref h_x_now, .ref h_past, .int x_pastStates, .ref h_x_text, .ref h_x_trial, .ref h_x_ways, .ref h_x_measured, .ref h_x_pairCounts])), (h_x_now, .inr (1, [.int x_now_row, .int x_now_table, .int x_now_kept, .ref h_x_now_book])), (h_x_now_book, .inl (cI, 8, .inl x_now_book)), (h_x_text, .inr (2, [.ref h_x_text_signs, .int x_text_length, .int x_text_word, .int x_text_kind, .int x_text_number, .int x_text_row, .int x_text_reached, .int x_text_broken])), (h_x_text_signs, .inl (cI, 60, .inl x_text_signs)), (h_x_trial, .inr (3, [.ref h_x_trial_state, .int x_trial_orders, .int x_trial_position, .int x_trial_reason, .int x_trial_cause])), (h_x_trial_state, .inr (1, [.int x_trial_state_row, .int x_trial_state_table, .int x_trial_state_kept, .ref h_x_trial_state_book])), (h_x_trial_state_book, .inl (cI, 8, .inl x_trial_state_book)), (h_x_ways, .inr (4, [.ref h_x_ways_stock, .ref h_x_ways_weight, .ref h_x_ways_known, .ref h_x_ways_found, nv x_ways_measure h_x_measured, .int x_ways_values, .int x_ways_row, .int x_ways_rowCodes, .int x_ways_table, .int x_ways_length, .int x_ways_full, .int x_ways_pairs, .int x_ways_codes])), (h_x_ways_stock, .inl (cI, 16, .inl x_ways_stock)), (h_x_ways_weight, .inl (cI, 16, .inl x_ways_weight)), (h_x_ways_known, .inl (cI, 577, .inl x_ways_known)), (h_x_ways_found, .inl (cI, 6347, .inl x_ways_found)), (h_x_measured, .inr (0, [.int x_measured_which, .int x_measured_x, .int x_measured_y, .int x_measured_row, .int x_measured_table])), (h_x_pairCounts, .inl (cI, 16, .inl x_pairCounts))]) := by
  refine CtI.of (by decide +kernel) rfl ?_
  intro p e s m below meth c A hc
  refine G_lv (lv' := [(0, .ref h_x), (1, .int a1)]) (lsame_cons rfl (lsame_cons rfl lsame_nil)) ?_
  unfold f_X5_letterAt at h
  refine G_iload_n hc dX5_letterAt_0 rfl ?_
  refine G_if_ge (tgt := 7) hc dX5_letterAt_1 (by decide) (fun c9 => ?_) (fun c9 => ?_)
  · have h := ip h c9
    refine G_iload_n hc dX5_letterAt_7 rfl ?_
    refine G_aload_n hc dX5_letterAt_8 rfl ?_
    refine G_get hc f_X5_10 0 rfl rfl dX5_letterAt_9 ?_
    refine G_get hc f_X5_57 1 rfl rfl dX5_letterAt_12 ?_
    obtain ⟨z1, hu2, h⟩ := ob h
    refine G_callSI (ws2 := [(h_x, .inr (5, [.ref h_x_now, .ref h_past, .int x_pastStates, .ref h_x_text, .ref h_x_trial, .ref h_x_ways, .ref h_x_measured, .ref h_x_pairCounts])), (h_x_now, .inr (1, [.int x_now_row, .int x_now_table, .int x_now_kept, .ref h_x_now_book])), (h_x_now_book, .inl (cI, 8, .inl x_now_book)), (h_x_text, .inr (2, [.ref h_x_text_signs, .int x_text_length, .int x_text_word, .int x_text_kind, .int x_text_number, .int x_text_row, .int x_text_reached, .int x_text_broken])), (h_x_text_signs, .inl (cI, 60, .inl x_text_signs)), (h_x_trial, .inr (3, [.ref h_x_trial_state, .int x_trial_orders, .int x_trial_position, .int x_trial_reason, .int x_trial_cause])), (h_x_trial_state, .inr (1, [.int x_trial_state_row, .int x_trial_state_table, .int x_trial_state_kept, .ref h_x_trial_state_book])), (h_x_trial_state_book, .inl (cI, 8, .inl x_trial_state_book)), (h_x_ways, .inr (4, [.ref h_x_ways_stock, .ref h_x_ways_weight, .ref h_x_ways_known, .ref h_x_ways_found, nv x_ways_measure h_x_measured, .int x_ways_values, .int x_ways_row, .int x_ways_rowCodes, .int x_ways_table, .int x_ways_length, .int x_ways_full, .int x_ways_pairs, .int x_ways_codes])), (h_x_ways_stock, .inl (cI, 16, .inl x_ways_stock)), (h_x_ways_weight, .inl (cI, 16, .inl x_ways_weight)), (h_x_ways_known, .inl (cI, 577, .inl x_ways_known)), (h_x_ways_found, .inl (cI, 6347, .inl x_ways_found)), (h_x_measured, .inr (0, [.int x_measured_which, .int x_measured_x, .int x_measured_y, .int x_measured_row, .int x_measured_table])), (h_x_pairCounts, .inl (cI, 16, .inl x_pairCounts))]) hc m_X5_61 (c_X5_lengthOf l D cI cS X F x_now_row hu2) [] (rmok_of (Nat.le_of_ble_eq_true rfl)) ⟨Nat.zero_le _, Nat.zero_le _⟩ rfl rfl rfl rfl rfl ⟨rfl, rfl, rfl⟩ dX5_letterAt_15 ?_
    obtain ⟨t3, hr5, h⟩ := ob h
    have hj4 : G p l e (rmk 2) s m [.ref h_x, .int a1].toArray below meth c D A 2 0 0 (QI below [.ref h_x, .int a1].toArray s D A (PoI res [(h_x, .inr (5, [.ref h_x_now, .ref h_past, .int x_pastStates, .ref h_x_text, .ref h_x_trial, .ref h_x_ways, .ref h_x_measured, .ref h_x_pairCounts])), (h_x_now, .inr (1, [.int x_now_row, .int x_now_table, .int x_now_kept, .ref h_x_now_book])), (h_x_now_book, .inl (cI, 8, .inl x_now_book)), (h_x_text, .inr (2, [.ref h_x_text_signs, .int x_text_length, .int x_text_word, .int x_text_kind, .int x_text_number, .int x_text_row, .int x_text_reached, .int x_text_broken])), (h_x_text_signs, .inl (cI, 60, .inl x_text_signs)), (h_x_trial, .inr (3, [.ref h_x_trial_state, .int x_trial_orders, .int x_trial_position, .int x_trial_reason, .int x_trial_cause])), (h_x_trial_state, .inr (1, [.int x_trial_state_row, .int x_trial_state_table, .int x_trial_state_kept, .ref h_x_trial_state_book])), (h_x_trial_state_book, .inl (cI, 8, .inl x_trial_state_book)), (h_x_ways, .inr (4, [.ref h_x_ways_stock, .ref h_x_ways_weight, .ref h_x_ways_known, .ref h_x_ways_found, nv x_ways_measure h_x_measured, .int x_ways_values, .int x_ways_row, .int x_ways_rowCodes, .int x_ways_table, .int x_ways_length, .int x_ways_full, .int x_ways_pairs, .int x_ways_codes])), (h_x_ways_stock, .inl (cI, 16, .inl x_ways_stock)), (h_x_ways_weight, .inl (cI, 16, .inl x_ways_weight)), (h_x_ways_known, .inl (cI, 577, .inl x_ways_known)), (h_x_ways_found, .inl (cI, 6347, .inl x_ways_found)), (h_x_measured, .inr (0, [.int x_measured_which, .int x_measured_x, .int x_measured_y, .int x_measured_row, .int x_measured_table])), (h_x_pairCounts, .inl (cI, 16, .inl x_pairCounts))])) [(h_x, .inr (5, [.ref h_x_now, .ref h_past, .int x_pastStates, .ref h_x_text, .ref h_x_trial, .ref h_x_ways, .ref h_x_measured, .ref h_x_pairCounts])), (h_x_now, .inr (1, [.int x_now_row, .int x_now_table, .int x_now_kept, .ref h_x_now_book])), (h_x_now_book, .inl (cI, 8, .inl x_now_book)), (h_x_text, .inr (2, [.ref h_x_text_signs, .int x_text_length, .int x_text_word, .int x_text_kind, .int x_text_number, .int x_text_row, .int x_text_reached, .int x_text_broken])), (h_x_text_signs, .inl (cI, 60, .inl x_text_signs)), (h_x_trial, .inr (3, [.ref h_x_trial_state, .int x_trial_orders, .int x_trial_position, .int x_trial_reason, .int x_trial_cause])), (h_x_trial_state, .inr (1, [.int x_trial_state_row, .int x_trial_state_table, .int x_trial_state_kept, .ref h_x_trial_state_book])), (h_x_trial_state_book, .inl (cI, 8, .inl x_trial_state_book)), (h_x_ways, .inr (4, [.ref h_x_ways_stock, .ref h_x_ways_weight, .ref h_x_ways_known, .ref h_x_ways_found, nv x_ways_measure h_x_measured, .int x_ways_values, .int x_ways_row, .int x_ways_rowCodes, .int x_ways_table, .int x_ways_length, .int x_ways_full, .int x_ways_pairs, .int x_ways_codes])), (h_x_ways_stock, .inl (cI, 16, .inl x_ways_stock)), (h_x_ways_weight, .inl (cI, 16, .inl x_ways_weight)), (h_x_ways_known, .inl (cI, 577, .inl x_ways_known)), (h_x_ways_found, .inl (cI, 6347, .inl x_ways_found)), (h_x_measured, .inr (0, [.int x_measured_which, .int x_measured_x, .int x_measured_y, .int x_measured_row, .int x_measured_table])), (h_x_pairCounts, .inl (cI, 16, .inl x_pairCounts))] [] 37 [.int t3] := by
      have h := Option.some.inj h
      subst h
      exact G_ireturn hc ⟨rfl, rfl⟩ dX5_letterAt_37
    clear h
    have h := hr5
    clear hr5
    refine G_icmp_ge (tgt := 35) hc dX5_letterAt_18 (by decide) (fun c8 => ?_) (fun c8 => ?_)
    · have h := ip h c8
      refine G_ldc (v := -1000004) hc k_X5_91 dX5_letterAt_35 ?_
      have h := Option.some.inj h
      subst h
      refine G_lv (lv' := []) lsame_nil ?_
      exact hj4
    · have h := inn h c8
      refine G_aload_n hc dX5_letterAt_21 rfl ?_
      refine G_get hc f_X5_10 0 rfl rfl dX5_letterAt_22 ?_
      refine G_get hc f_X5_57 1 rfl rfl dX5_letterAt_25 ?_
      refine G_iload_n hc dX5_letterAt_28 rfl ?_
      obtain ⟨z6, hu7, h⟩ := ob h
      refine G_callSI (ws2 := [(h_x, .inr (5, [.ref h_x_now, .ref h_past, .int x_pastStates, .ref h_x_text, .ref h_x_trial, .ref h_x_ways, .ref h_x_measured, .ref h_x_pairCounts])), (h_x_now, .inr (1, [.int x_now_row, .int x_now_table, .int x_now_kept, .ref h_x_now_book])), (h_x_now_book, .inl (cI, 8, .inl x_now_book)), (h_x_text, .inr (2, [.ref h_x_text_signs, .int x_text_length, .int x_text_word, .int x_text_kind, .int x_text_number, .int x_text_row, .int x_text_reached, .int x_text_broken])), (h_x_text_signs, .inl (cI, 60, .inl x_text_signs)), (h_x_trial, .inr (3, [.ref h_x_trial_state, .int x_trial_orders, .int x_trial_position, .int x_trial_reason, .int x_trial_cause])), (h_x_trial_state, .inr (1, [.int x_trial_state_row, .int x_trial_state_table, .int x_trial_state_kept, .ref h_x_trial_state_book])), (h_x_trial_state_book, .inl (cI, 8, .inl x_trial_state_book)), (h_x_ways, .inr (4, [.ref h_x_ways_stock, .ref h_x_ways_weight, .ref h_x_ways_known, .ref h_x_ways_found, nv x_ways_measure h_x_measured, .int x_ways_values, .int x_ways_row, .int x_ways_rowCodes, .int x_ways_table, .int x_ways_length, .int x_ways_full, .int x_ways_pairs, .int x_ways_codes])), (h_x_ways_stock, .inl (cI, 16, .inl x_ways_stock)), (h_x_ways_weight, .inl (cI, 16, .inl x_ways_weight)), (h_x_ways_known, .inl (cI, 577, .inl x_ways_known)), (h_x_ways_found, .inl (cI, 6347, .inl x_ways_found)), (h_x_measured, .inr (0, [.int x_measured_which, .int x_measured_x, .int x_measured_y, .int x_measured_row, .int x_measured_table])), (h_x_pairCounts, .inl (cI, 16, .inl x_pairCounts))]) hc m_X5_88 (c_X5_letterOf l D cI cS X F x_now_row a1 hu7) [] (rmok_of (Nat.le_of_ble_eq_true rfl)) ⟨Nat.zero_le _, Nat.zero_le _⟩ rfl rfl rfl rfl rfl ⟨rfl, rfl, rfl⟩ dX5_letterAt_29 ?_
      refine G_goto (tgt := 37) hc dX5_letterAt_32 (by decide) ?_
      have h := Option.some.inj h
      subst h
      refine G_lv (lv' := []) lsame_nil ?_
      exact hj4
  · have h := inn h c9
    refine G_ldc (v := -1000001) hc k_X5_56 dX5_letterAt_4 ?_
    have h := Option.some.inj h
    subst h
    exact G_ireturn hc ⟨rfl, rfl⟩ dX5_letterAt_6
set_option maxHeartbeats 4000000 in
set_option maxRecDepth 100000 in
theorem c_X5_within (l : Launch) (D : va_G) (cI cS : ClassId) (X : XP) (F : Nat) (a0 : Int32) (a1 : Int32) {res : Int32} (h : f_X5_within F a0 a1 = some res) : CtI l D cI cS X yX5_within cX5_within 2 (some .boolean) 1 [.int a0, .int a1] [] (PoI res []) := by
  refine CtI.of (by decide +kernel) rfl ?_
  intro p e s m below meth c A hc
  refine G_lv (lv' := [(0, .int a0), (1, .int a1)]) (lsame_cons rfl (lsame_cons rfl lsame_nil)) ?_
  unfold f_X5_within at h
  refine G_iload_n hc dX5_within_0 rfl ?_
  obtain ⟨t1, hr3, h⟩ := ob h
  have hj2 : G p l e (rmk 1) s m [.int a0, .int a1].toArray below meth c D A 2 0 0 (QI below [.int a0, .int a1].toArray s D A (PoI res [])) [] [] 14 [.int t1] := by
    obtain ⟨hz6, h⟩ := zb h
    have h := Option.some.inj h
    subst h
    exact G_zreturn hc hz6 ⟨rfl, rfl⟩ dX5_within_14
  clear h
  have h := hr3
  clear hr3
  refine G_if_lt (tgt := 13) hc dX5_within_1 (by decide) (fun c5 => ?_) (fun c5 => ?_)
  · have h := ip h c5
    refine G_iconst (v := 0) hc dX5_within_13 (by decide) ?_
    have h := Option.some.inj h
    subst h
    refine G_lv (lv' := []) lsame_nil ?_
    exact hj2
  · have h := inn h c5
    refine G_iload_n hc dX5_within_4 rfl ?_
    refine G_iload_n hc dX5_within_5 rfl ?_
    refine G_icmp_gt (tgt := 13) hc dX5_within_6 (by decide) (fun c4 => ?_) (fun c4 => ?_)
    · have h := ip h c4
      refine G_iconst (v := 0) hc dX5_within_13 (by decide) ?_
      have h := Option.some.inj h
      subst h
      refine G_lv (lv' := []) lsame_nil ?_
      exact hj2
    · have h := inn h c4
      refine G_iconst (v := 1) hc dX5_within_9 (by decide) ?_
      refine G_goto (tgt := 14) hc dX5_within_10 (by decide) ?_
      have h := Option.some.inj h
      subst h
      refine G_lv (lv' := []) lsame_nil ?_
      exact hj2
set_option maxHeartbeats 4000000 in
set_option maxRecDepth 100000 in
theorem c_X5_codeIn (l : Launch) (D : va_G) (cI cS : ClassId) (X : XP) (F : Nat) (a0 : Int32) (a1 : Int32) (a2 : Int32) {res : Int32} (h : f_X5_codeIn F a0 a1 a2 = some res) : CtI l D cI cS X yX5_codeIn cX5_codeIn 3 (some .int) 1 [.int a0, .int a1, .int a2] [] (PoI res []) := by
  refine CtI.of (by decide +kernel) rfl ?_
  intro p e s m below meth c A hc
  refine G_lv (lv' := [(0, .int a0), (1, .int a1), (2, .int a2)]) (lsame_cons rfl (lsame_cons rfl (lsame_cons rfl lsame_nil))) ?_
  unfold f_X5_codeIn at h
  refine G_iload_n hc dX5_codeIn_0 rfl ?_
  refine G_iconst (v := 2) hc dX5_codeIn_1 (by decide) ?_
  refine G_iconst (v := 4) hc dX5_codeIn_2 (by decide) ?_
  refine G_iload_n hc dX5_codeIn_3 rfl ?_
  refine G_imul hc dX5_codeIn_4 ?_
  refine G_iload_n hc dX5_codeIn_5 rfl ?_
  refine G_iadd hc dX5_codeIn_6 ?_
  refine G_imul hc dX5_codeIn_7 ?_
  refine G_iushr hc dX5_codeIn_8 ?_
  refine G_iconst (v := 3) hc dX5_codeIn_9 (by decide) ?_
  refine G_iand hc dX5_codeIn_10 ?_
  have h := Option.some.inj h
  subst h
  exact G_ireturn hc ⟨rfl, rfl⟩ dX5_codeIn_11
set_option maxHeartbeats 4000000 in
set_option maxRecDepth 100000 in
theorem c_X5_codeOf (l : Launch) (D : va_G) (cI cS : ClassId) (X : XP) (F : Nat) (h_x h_x_now h_x_now_book h_x_text h_x_text_signs h_x_trial h_x_trial_state h_x_trial_state_book h_x_ways h_x_ways_stock h_x_ways_weight h_x_ways_known h_x_ways_found h_x_measured h_x_pairCounts h_past : Nat) (x_pastStates : Int32) (x_now_row : Int32) (x_now_table : Int32) (x_now_kept : Int32) (x_now_book : Nat → Int32) (x_text_length : Int32) (x_text_word : Int32) (x_text_kind : Int32) (x_text_number : Int32) (x_text_row : Int32) (x_text_reached : Int32) (x_text_broken : Int32) (x_text_signs : Nat → Int32) (x_trial_orders : Int32) (x_trial_position : Int32) (x_trial_reason : Int32) (x_trial_cause : Int32) (x_trial_state_row : Int32) (x_trial_state_table : Int32) (x_trial_state_kept : Int32) (x_trial_state_book : Nat → Int32) (x_ways_measure : Bool) (x_ways_values : Int32) (x_ways_row : Int32) (x_ways_rowCodes : Int32) (x_ways_table : Int32) (x_ways_length : Int32) (x_ways_full : Int32) (x_ways_pairs : Int32) (x_ways_codes : Int32) (x_ways_stock : Nat → Int32) (x_ways_weight : Nat → Int32) (x_ways_known : Nat → Int32) (x_ways_found : Nat → Int32) (x_measured_which : Int32) (x_measured_x : Int32) (x_measured_y : Int32) (x_measured_row : Int32) (x_measured_table : Int32) (x_pairCounts : Nat → Int32) (a1 : Int32) (a2 : Int32) {res : Int32} (h : f_X5_codeOf F x_now_table a1 a2 = some res) : CtI l D cI cS X yX5_codeOf cX5_codeOf 3 (some .int) 2 [.ref h_x, .int a1, .int a2] [(h_x, .inr (5, [.ref h_x_now, .ref h_past, .int x_pastStates, .ref h_x_text, .ref h_x_trial, .ref h_x_ways, .ref h_x_measured, .ref h_x_pairCounts])), (h_x_now, .inr (1, [.int x_now_row, .int x_now_table, .int x_now_kept, .ref h_x_now_book])), (h_x_now_book, .inl (cI, 8, .inl x_now_book)), (h_x_text, .inr (2, [.ref h_x_text_signs, .int x_text_length, .int x_text_word, .int x_text_kind, .int x_text_number, .int x_text_row, .int x_text_reached, .int x_text_broken])), (h_x_text_signs, .inl (cI, 60, .inl x_text_signs)), (h_x_trial, .inr (3, [.ref h_x_trial_state, .int x_trial_orders, .int x_trial_position, .int x_trial_reason, .int x_trial_cause])), (h_x_trial_state, .inr (1, [.int x_trial_state_row, .int x_trial_state_table, .int x_trial_state_kept, .ref h_x_trial_state_book])), (h_x_trial_state_book, .inl (cI, 8, .inl x_trial_state_book)), (h_x_ways, .inr (4, [.ref h_x_ways_stock, .ref h_x_ways_weight, .ref h_x_ways_known, .ref h_x_ways_found, nv x_ways_measure h_x_measured, .int x_ways_values, .int x_ways_row, .int x_ways_rowCodes, .int x_ways_table, .int x_ways_length, .int x_ways_full, .int x_ways_pairs, .int x_ways_codes])), (h_x_ways_stock, .inl (cI, 16, .inl x_ways_stock)), (h_x_ways_weight, .inl (cI, 16, .inl x_ways_weight)), (h_x_ways_known, .inl (cI, 577, .inl x_ways_known)), (h_x_ways_found, .inl (cI, 6347, .inl x_ways_found)), (h_x_measured, .inr (0, [.int x_measured_which, .int x_measured_x, .int x_measured_y, .int x_measured_row, .int x_measured_table])), (h_x_pairCounts, .inl (cI, 16, .inl x_pairCounts))] (PoI res [(h_x, .inr (5, [.ref h_x_now, .ref h_past, .int x_pastStates, .ref h_x_text, .ref h_x_trial, .ref h_x_ways, .ref h_x_measured, .ref h_x_pairCounts])), (h_x_now, .inr (1, [.int x_now_row, .int x_now_table, .int x_now_kept, .ref h_x_now_book])), (h_x_now_book, .inl (cI, 8, .inl x_now_book)), (h_x_text, .inr (2, [.ref h_x_text_signs, .int x_text_length, .int x_text_word, .int x_text_kind, .int x_text_number, .int x_text_row, .int x_text_reached, .int x_text_broken])), (h_x_text_signs, .inl (cI, 60, .inl x_text_signs)), (h_x_trial, .inr (3, [.ref h_x_trial_state, .int x_trial_orders, .int x_trial_position, .int x_trial_reason, .int x_trial_cause])), (h_x_trial_state, .inr (1, [.int x_trial_state_row, .int x_trial_state_table, .int x_trial_state_kept, .ref h_x_trial_state_book])), (h_x_trial_state_book, .inl (cI, 8, .inl x_trial_state_book)), (h_x_ways, .inr (4, [.ref h_x_ways_stock, .ref h_x_ways_weight, .ref h_x_ways_known, .ref h_x_ways_found, nv x_ways_measure h_x_measured, .int x_ways_values, .int x_ways_row, .int x_ways_rowCodes, .int x_ways_table, .int x_ways_length, .int x_ways_full, .int x_ways_pairs, .int x_ways_codes])), (h_x_ways_stock, .inl (cI, 16, .inl x_ways_stock)), (h_x_ways_weight, .inl (cI, 16, .inl x_ways_weight)), (h_x_ways_known, .inl (cI, 577, .inl x_ways_known)), (h_x_ways_found, .inl (cI, 6347, .inl x_ways_found)), (h_x_measured, .inr (0, [.int x_measured_which, .int x_measured_x, .int x_measured_y, .int x_measured_row, .int x_measured_table])), (h_x_pairCounts, .inl (cI, 16, .inl x_pairCounts))]) := by
  refine CtI.of (by decide +kernel) rfl ?_
  intro p e s m below meth c A hc
  refine G_lv (lv' := [(0, .ref h_x), (1, .int a1), (2, .int a2)]) (lsame_cons rfl (lsame_cons rfl (lsame_cons rfl lsame_nil))) ?_
  unfold f_X5_codeOf at h
  refine G_iload_n hc dX5_codeOf_0 rfl ?_
  refine G_iconst (v := 3) hc dX5_codeOf_1 (by decide) ?_
  obtain ⟨z1, hu2, h⟩ := ob h
  refine G_callSI (ws2 := [(h_x, .inr (5, [.ref h_x_now, .ref h_past, .int x_pastStates, .ref h_x_text, .ref h_x_trial, .ref h_x_ways, .ref h_x_measured, .ref h_x_pairCounts])), (h_x_now, .inr (1, [.int x_now_row, .int x_now_table, .int x_now_kept, .ref h_x_now_book])), (h_x_now_book, .inl (cI, 8, .inl x_now_book)), (h_x_text, .inr (2, [.ref h_x_text_signs, .int x_text_length, .int x_text_word, .int x_text_kind, .int x_text_number, .int x_text_row, .int x_text_reached, .int x_text_broken])), (h_x_text_signs, .inl (cI, 60, .inl x_text_signs)), (h_x_trial, .inr (3, [.ref h_x_trial_state, .int x_trial_orders, .int x_trial_position, .int x_trial_reason, .int x_trial_cause])), (h_x_trial_state, .inr (1, [.int x_trial_state_row, .int x_trial_state_table, .int x_trial_state_kept, .ref h_x_trial_state_book])), (h_x_trial_state_book, .inl (cI, 8, .inl x_trial_state_book)), (h_x_ways, .inr (4, [.ref h_x_ways_stock, .ref h_x_ways_weight, .ref h_x_ways_known, .ref h_x_ways_found, nv x_ways_measure h_x_measured, .int x_ways_values, .int x_ways_row, .int x_ways_rowCodes, .int x_ways_table, .int x_ways_length, .int x_ways_full, .int x_ways_pairs, .int x_ways_codes])), (h_x_ways_stock, .inl (cI, 16, .inl x_ways_stock)), (h_x_ways_weight, .inl (cI, 16, .inl x_ways_weight)), (h_x_ways_known, .inl (cI, 577, .inl x_ways_known)), (h_x_ways_found, .inl (cI, 6347, .inl x_ways_found)), (h_x_measured, .inr (0, [.int x_measured_which, .int x_measured_x, .int x_measured_y, .int x_measured_row, .int x_measured_table])), (h_x_pairCounts, .inl (cI, 16, .inl x_pairCounts))]) hc m_X5_52 (c_X5_within l D cI cS X F a1 (3 : Int32) hu2) [] (rmok_of (Nat.le_of_ble_eq_true rfl)) ⟨Nat.zero_le _, Nat.zero_le _⟩ rfl rfl rfl rfl rfl ⟨rfl, rfl, rfl⟩ dX5_codeOf_2 ?_
  refine G_if_eq (tgt := 16) hc dX5_codeOf_5 (by decide) (fun c8 => ?_) (fun c8 => ?_)
  · have h := ip h c8
    refine G_ldc (v := -1000001) hc k_X5_56 dX5_codeOf_16 ?_
    have h := Option.some.inj h
    subst h
    exact G_ireturn hc ⟨rfl, rfl⟩ dX5_codeOf_18
  · have h := inn h c8
    refine G_iload_n hc dX5_codeOf_8 rfl ?_
    refine G_iconst (v := 3) hc dX5_codeOf_9 (by decide) ?_
    obtain ⟨z3, hu4, h⟩ := ob h
    refine G_callSI (ws2 := [(h_x, .inr (5, [.ref h_x_now, .ref h_past, .int x_pastStates, .ref h_x_text, .ref h_x_trial, .ref h_x_ways, .ref h_x_measured, .ref h_x_pairCounts])), (h_x_now, .inr (1, [.int x_now_row, .int x_now_table, .int x_now_kept, .ref h_x_now_book])), (h_x_now_book, .inl (cI, 8, .inl x_now_book)), (h_x_text, .inr (2, [.ref h_x_text_signs, .int x_text_length, .int x_text_word, .int x_text_kind, .int x_text_number, .int x_text_row, .int x_text_reached, .int x_text_broken])), (h_x_text_signs, .inl (cI, 60, .inl x_text_signs)), (h_x_trial, .inr (3, [.ref h_x_trial_state, .int x_trial_orders, .int x_trial_position, .int x_trial_reason, .int x_trial_cause])), (h_x_trial_state, .inr (1, [.int x_trial_state_row, .int x_trial_state_table, .int x_trial_state_kept, .ref h_x_trial_state_book])), (h_x_trial_state_book, .inl (cI, 8, .inl x_trial_state_book)), (h_x_ways, .inr (4, [.ref h_x_ways_stock, .ref h_x_ways_weight, .ref h_x_ways_known, .ref h_x_ways_found, nv x_ways_measure h_x_measured, .int x_ways_values, .int x_ways_row, .int x_ways_rowCodes, .int x_ways_table, .int x_ways_length, .int x_ways_full, .int x_ways_pairs, .int x_ways_codes])), (h_x_ways_stock, .inl (cI, 16, .inl x_ways_stock)), (h_x_ways_weight, .inl (cI, 16, .inl x_ways_weight)), (h_x_ways_known, .inl (cI, 577, .inl x_ways_known)), (h_x_ways_found, .inl (cI, 6347, .inl x_ways_found)), (h_x_measured, .inr (0, [.int x_measured_which, .int x_measured_x, .int x_measured_y, .int x_measured_row, .int x_measured_table])), (h_x_pairCounts, .inl (cI, 16, .inl x_pairCounts))]) hc m_X5_52 (c_X5_within l D cI cS X F a2 (3 : Int32) hu4) [] (rmok_of (Nat.le_of_ble_eq_true rfl)) ⟨Nat.zero_le _, Nat.zero_le _⟩ rfl rfl rfl rfl rfl ⟨rfl, rfl, rfl⟩ dX5_codeOf_10 ?_
    refine G_if_ne (tgt := 19) hc dX5_codeOf_13 (by decide) (fun c7 => ?_) (fun c7 => ?_)
    · have h := inn h c7
      refine G_aload_n hc dX5_codeOf_19 rfl ?_
      refine G_get hc f_X5_10 0 rfl rfl dX5_codeOf_20 ?_
      refine G_get hc f_X5_73 1 rfl rfl dX5_codeOf_23 ?_
      refine G_iload_n hc dX5_codeOf_26 rfl ?_
      refine G_iload_n hc dX5_codeOf_27 rfl ?_
      obtain ⟨z5, hu6, h⟩ := ob h
      refine G_callSI (ws2 := [(h_x, .inr (5, [.ref h_x_now, .ref h_past, .int x_pastStates, .ref h_x_text, .ref h_x_trial, .ref h_x_ways, .ref h_x_measured, .ref h_x_pairCounts])), (h_x_now, .inr (1, [.int x_now_row, .int x_now_table, .int x_now_kept, .ref h_x_now_book])), (h_x_now_book, .inl (cI, 8, .inl x_now_book)), (h_x_text, .inr (2, [.ref h_x_text_signs, .int x_text_length, .int x_text_word, .int x_text_kind, .int x_text_number, .int x_text_row, .int x_text_reached, .int x_text_broken])), (h_x_text_signs, .inl (cI, 60, .inl x_text_signs)), (h_x_trial, .inr (3, [.ref h_x_trial_state, .int x_trial_orders, .int x_trial_position, .int x_trial_reason, .int x_trial_cause])), (h_x_trial_state, .inr (1, [.int x_trial_state_row, .int x_trial_state_table, .int x_trial_state_kept, .ref h_x_trial_state_book])), (h_x_trial_state_book, .inl (cI, 8, .inl x_trial_state_book)), (h_x_ways, .inr (4, [.ref h_x_ways_stock, .ref h_x_ways_weight, .ref h_x_ways_known, .ref h_x_ways_found, nv x_ways_measure h_x_measured, .int x_ways_values, .int x_ways_row, .int x_ways_rowCodes, .int x_ways_table, .int x_ways_length, .int x_ways_full, .int x_ways_pairs, .int x_ways_codes])), (h_x_ways_stock, .inl (cI, 16, .inl x_ways_stock)), (h_x_ways_weight, .inl (cI, 16, .inl x_ways_weight)), (h_x_ways_known, .inl (cI, 577, .inl x_ways_known)), (h_x_ways_found, .inl (cI, 6347, .inl x_ways_found)), (h_x_measured, .inr (0, [.int x_measured_which, .int x_measured_x, .int x_measured_y, .int x_measured_row, .int x_measured_table])), (h_x_pairCounts, .inl (cI, 16, .inl x_pairCounts))]) hc m_X5_76 (c_X5_codeIn l D cI cS X F x_now_table a1 a2 hu6) [] (rmok_of (Nat.le_of_ble_eq_true rfl)) ⟨Nat.zero_le _, Nat.zero_le _⟩ rfl rfl rfl rfl rfl ⟨rfl, rfl, rfl⟩ dX5_codeOf_28 ?_
      have h := Option.some.inj h
      subst h
      exact G_ireturn hc ⟨rfl, rfl⟩ dX5_codeOf_31
    · have h := ip h c7
      refine G_ldc (v := -1000001) hc k_X5_56 dX5_codeOf_16 ?_
      have h := Option.some.inj h
      subst h
      exact G_ireturn hc ⟨rfl, rfl⟩ dX5_codeOf_18
set_option maxHeartbeats 4000000 in
set_option maxRecDepth 100000 in
theorem c_X5_pairsIn (l : Launch) (D : va_G) (cI cS : ClassId) (X : XP) (F : Nat) (a0 : Int32) (a1 : Int32) (a2 : Int32) {res : Int32} (h : f_X5_pairsIn F a0 a1 a2 = some res) : CtI l D cI cS X yX5_pairsIn cX5_pairsIn 5 (some .int) 2 [.int a0, .int a1, .int a2] [] (PoI res []) := by
  refine CtI.of (by decide +kernel) rfl ?_
  intro p e s m below meth c A hc
  refine G_lv (lv' := [(0, .int a0), (1, .int a1), (2, .int a2)]) (lsame_cons rfl (lsame_cons rfl (lsame_cons rfl lsame_nil))) ?_
  unfold f_X5_pairsIn at h
  refine G_iconst (v := 0) hc dX5_pairsIn_0 (by decide) ?_
  refine G_istore_n (lv' := [(0, .int a0), (1, .int a1), (2, .int a2), (3, .int (0 : Int32))]) hc dX5_pairsIn_1 rfl rfl ?_
  refine G_iconst (v := 1) hc dX5_pairsIn_2 (by decide) ?_
  refine G_istore (lv' := [(0, .int a0), (1, .int a1), (2, .int a2), (3, .int (0 : Int32)), (4, .int (1 : Int32))]) hc dX5_pairsIn_3 rfl rfl ?_
  obtain ⟨e3, hl4, h⟩ := ob h
  have hK8 : G p l e (rmk 2) s m [.int a0, .int a1, .int a2].toArray below meth c D A 5 0 0 (QI below [.int a0, .int a1, .int a2].toArray s D A (PoI res [])) [] [(3, .int e3)] 45 [] := by
    refine G_iload_n hc dX5_pairsIn_45 rfl ?_
    have h := Option.some.inj h
    subst h
    exact G_ireturn hc ⟨rfl, rfl⟩ dX5_pairsIn_46
  clear h
  have hL5 : ∀ (n6 : Nat) (u1 : Int32) (u2 : Int32), f_X5_pairsIn_L5 F a0 a1 a2 n6 u1 u2 = some e3 → G p l e (rmk 2) s m [.int a0, .int a1, .int a2].toArray below meth c D A 5 0 0 (QI below [.int a0, .int a1, .int a2].toArray s D A (PoI res [])) [] [(0, .int a0), (1, .int a1), (2, .int a2), (3, .int u1), (4, .int u2)] 5 [] := by
    intro n6
    induction n6 with
    | zero =>
      intro u1 u2 h
      exact nz h
    | succ n6 ih7 =>
      intro u1 u2 h
      rw [f_X5_pairsIn_L5] at h
      refine G_iload hc dX5_pairsIn_5 rfl ?_
      refine G_iload_n hc dX5_pairsIn_7 rfl ?_
      obtain ⟨z9, hu10, h⟩ := ob h
      refine G_callSI (ws2 := []) hc m_X5_61 (c_X5_lengthOf l D cI cS X F a0 hu10) [] (rmok_of (Nat.le_of_ble_eq_true rfl)) ⟨Nat.zero_le _, Nat.zero_le _⟩ rfl rfl rfl rfl rfl ⟨rfl, rfl, rfl⟩ dX5_pairsIn_8 ?_
      refine G_icmp_ge (tgt := 45) hc dX5_pairsIn_11 (by decide) (fun c22 => ?_) (fun c22 => ?_)
      · have h := ip h c22
        have h := Option.some.inj h
        subst h
        refine G_lv (lv' := [(3, .int u1)]) (lsame_cons rfl lsame_nil) ?_
        exact hK8
      · have h := inn h c22
        refine G_iload_n hc dX5_pairsIn_14 rfl ?_
        refine G_iload hc dX5_pairsIn_15 rfl ?_
        refine G_iconst (v := 1) hc dX5_pairsIn_17 (by decide) ?_
        refine G_isub hc dX5_pairsIn_18 ?_
        obtain ⟨z11, hu12, h⟩ := ob h
        refine G_callSI (ws2 := []) hc m_X5_88 (c_X5_letterOf l D cI cS X F a0 (u2 - (1 : Int32)) hu12) [] (rmok_of (Nat.le_of_ble_eq_true rfl)) ⟨Nat.zero_le _, Nat.zero_le _⟩ rfl rfl rfl rfl rfl ⟨rfl, rfl, rfl⟩ dX5_pairsIn_19 ?_
        refine G_iload_n hc dX5_pairsIn_22 rfl ?_
        obtain ⟨t13, hr15, h⟩ := ob h
        have hj14 : G p l e (rmk 2) s m [.int a0, .int a1, .int a2].toArray below meth c D A 5 0 0 (QI below [.int a0, .int a1, .int a2].toArray s D A (PoI res [])) [] [(0, .int a0), (1, .int a1), (2, .int a2), (3, .int t13), (4, .int u2)] 39 [] := by
          obtain ⟨v21, e_v21, h⟩ := sb h
          refine G_iinc (v := v21) (lv' := [(0, .int a0), (1, .int a1), (2, .int a2), (3, .int t13), (4, .int v21)]) hc dX5_pairsIn_39 rfl (e_v21.trans rfl) rfl rfl ?_
          refine G_goto (tgt := 5) hc dX5_pairsIn_42 (by decide) ?_
          refine G_lv (lv' := [(0, .int a0), (1, .int a1), (2, .int a2), (3, .int t13), (4, .int v21)]) (lsame_cons rfl (lsame_cons rfl (lsame_cons rfl (lsame_cons rfl (lsame_cons rfl lsame_nil))))) ?_
          exact ih7 _ _ h
        clear h
        have h := hr15
        clear hr15
        refine G_icmp_ne (tgt := 39) hc dX5_pairsIn_23 (by decide) (fun c20 => ?_) (fun c20 => ?_)
        · have h := inn h c20
          have h := Option.some.inj h
          subst h
          refine G_lv (lv' := [(0, .int a0), (1, .int a1), (2, .int a2), (3, .int u1), (4, .int u2)]) (lsame_cons rfl (lsame_cons rfl (lsame_cons rfl (lsame_cons rfl (lsame_cons rfl lsame_nil))))) ?_
          exact hj14
        · have h := ip h c20
          refine G_iload_n hc dX5_pairsIn_26 rfl ?_
          refine G_iload hc dX5_pairsIn_27 rfl ?_
          obtain ⟨z16, hu17, h⟩ := ob h
          refine G_callSI (ws2 := []) hc m_X5_88 (c_X5_letterOf l D cI cS X F a0 u2 hu17) [] (rmok_of (Nat.le_of_ble_eq_true rfl)) ⟨Nat.zero_le _, Nat.zero_le _⟩ rfl rfl rfl rfl rfl ⟨rfl, rfl, rfl⟩ dX5_pairsIn_29 ?_
          refine G_iload_n hc dX5_pairsIn_32 rfl ?_
          refine G_icmp_ne (tgt := 39) hc dX5_pairsIn_33 (by decide) (fun c19 => ?_) (fun c19 => ?_)
          · have h := inn h c19
            have h := Option.some.inj h
            subst h
            refine G_lv (lv' := [(0, .int a0), (1, .int a1), (2, .int a2), (3, .int u1), (4, .int u2)]) (lsame_cons rfl (lsame_cons rfl (lsame_cons rfl (lsame_cons rfl (lsame_cons rfl lsame_nil))))) ?_
            exact hj14
          · have h := ip h c19
            obtain ⟨v18, e_v18, h⟩ := sb h
            refine G_iinc (v := v18) (lv' := [(0, .int a0), (1, .int a1), (2, .int a2), (3, .int v18), (4, .int u2)]) hc dX5_pairsIn_36 rfl (e_v18.trans rfl) rfl rfl ?_
            have h := Option.some.inj h
            subst h
            refine G_lv (lv' := [(0, .int a0), (1, .int a1), (2, .int a2), (3, .int v18), (4, .int u2)]) (lsame_cons rfl (lsame_cons rfl (lsame_cons rfl (lsame_cons rfl (lsame_cons rfl lsame_nil))))) ?_
            exact hj14
  refine G_lv (lv' := [(0, .int a0), (1, .int a1), (2, .int a2), (3, .int (0 : Int32)), (4, .int (1 : Int32))]) (lsame_cons rfl (lsame_cons rfl (lsame_cons rfl (lsame_cons rfl (lsame_cons rfl lsame_nil))))) ?_
  exact hL5 F _ _ hl4
set_option maxHeartbeats 4000000 in
set_option maxRecDepth 100000 in
theorem c_X5_pairsAheadOf (l : Launch) (D : va_G) (cI cS : ClassId) (X : XP) (F : Nat) (h_x h_x_now h_x_now_book h_x_text h_x_text_signs h_x_trial h_x_trial_state h_x_trial_state_book h_x_ways h_x_ways_stock h_x_ways_weight h_x_ways_known h_x_ways_found h_x_measured h_x_pairCounts h_past : Nat) (x_pastStates : Int32) (x_now_row : Int32) (x_now_table : Int32) (x_now_kept : Int32) (x_now_book : Nat → Int32) (x_text_length : Int32) (x_text_word : Int32) (x_text_kind : Int32) (x_text_number : Int32) (x_text_row : Int32) (x_text_reached : Int32) (x_text_broken : Int32) (x_text_signs : Nat → Int32) (x_trial_orders : Int32) (x_trial_position : Int32) (x_trial_reason : Int32) (x_trial_cause : Int32) (x_trial_state_row : Int32) (x_trial_state_table : Int32) (x_trial_state_kept : Int32) (x_trial_state_book : Nat → Int32) (x_ways_measure : Bool) (x_ways_values : Int32) (x_ways_row : Int32) (x_ways_rowCodes : Int32) (x_ways_table : Int32) (x_ways_length : Int32) (x_ways_full : Int32) (x_ways_pairs : Int32) (x_ways_codes : Int32) (x_ways_stock : Nat → Int32) (x_ways_weight : Nat → Int32) (x_ways_known : Nat → Int32) (x_ways_found : Nat → Int32) (x_measured_which : Int32) (x_measured_x : Int32) (x_measured_y : Int32) (x_measured_row : Int32) (x_measured_table : Int32) (x_pairCounts : Nat → Int32) (a1 : Int32) (a2 : Int32) {res : Int32} (h : f_X5_pairsAheadOf F x_pairCounts a1 a2 = some res) : CtI l D cI cS X yX5_pairsAheadOf cX5_pairsAheadOf 6 (some .int) 1 [.ref h_x, .int a1, .int a2] [(h_x, .inr (5, [.ref h_x_now, .ref h_past, .int x_pastStates, .ref h_x_text, .ref h_x_trial, .ref h_x_ways, .ref h_x_measured, .ref h_x_pairCounts])), (h_x_now, .inr (1, [.int x_now_row, .int x_now_table, .int x_now_kept, .ref h_x_now_book])), (h_x_now_book, .inl (cI, 8, .inl x_now_book)), (h_x_text, .inr (2, [.ref h_x_text_signs, .int x_text_length, .int x_text_word, .int x_text_kind, .int x_text_number, .int x_text_row, .int x_text_reached, .int x_text_broken])), (h_x_text_signs, .inl (cI, 60, .inl x_text_signs)), (h_x_trial, .inr (3, [.ref h_x_trial_state, .int x_trial_orders, .int x_trial_position, .int x_trial_reason, .int x_trial_cause])), (h_x_trial_state, .inr (1, [.int x_trial_state_row, .int x_trial_state_table, .int x_trial_state_kept, .ref h_x_trial_state_book])), (h_x_trial_state_book, .inl (cI, 8, .inl x_trial_state_book)), (h_x_ways, .inr (4, [.ref h_x_ways_stock, .ref h_x_ways_weight, .ref h_x_ways_known, .ref h_x_ways_found, nv x_ways_measure h_x_measured, .int x_ways_values, .int x_ways_row, .int x_ways_rowCodes, .int x_ways_table, .int x_ways_length, .int x_ways_full, .int x_ways_pairs, .int x_ways_codes])), (h_x_ways_stock, .inl (cI, 16, .inl x_ways_stock)), (h_x_ways_weight, .inl (cI, 16, .inl x_ways_weight)), (h_x_ways_known, .inl (cI, 577, .inl x_ways_known)), (h_x_ways_found, .inl (cI, 6347, .inl x_ways_found)), (h_x_measured, .inr (0, [.int x_measured_which, .int x_measured_x, .int x_measured_y, .int x_measured_row, .int x_measured_table])), (h_x_pairCounts, .inl (cI, 16, .inl x_pairCounts))] (PoI res [(h_x, .inr (5, [.ref h_x_now, .ref h_past, .int x_pastStates, .ref h_x_text, .ref h_x_trial, .ref h_x_ways, .ref h_x_measured, .ref h_x_pairCounts])), (h_x_now, .inr (1, [.int x_now_row, .int x_now_table, .int x_now_kept, .ref h_x_now_book])), (h_x_now_book, .inl (cI, 8, .inl x_now_book)), (h_x_text, .inr (2, [.ref h_x_text_signs, .int x_text_length, .int x_text_word, .int x_text_kind, .int x_text_number, .int x_text_row, .int x_text_reached, .int x_text_broken])), (h_x_text_signs, .inl (cI, 60, .inl x_text_signs)), (h_x_trial, .inr (3, [.ref h_x_trial_state, .int x_trial_orders, .int x_trial_position, .int x_trial_reason, .int x_trial_cause])), (h_x_trial_state, .inr (1, [.int x_trial_state_row, .int x_trial_state_table, .int x_trial_state_kept, .ref h_x_trial_state_book])), (h_x_trial_state_book, .inl (cI, 8, .inl x_trial_state_book)), (h_x_ways, .inr (4, [.ref h_x_ways_stock, .ref h_x_ways_weight, .ref h_x_ways_known, .ref h_x_ways_found, nv x_ways_measure h_x_measured, .int x_ways_values, .int x_ways_row, .int x_ways_rowCodes, .int x_ways_table, .int x_ways_length, .int x_ways_full, .int x_ways_pairs, .int x_ways_codes])), (h_x_ways_stock, .inl (cI, 16, .inl x_ways_stock)), (h_x_ways_weight, .inl (cI, 16, .inl x_ways_weight)), (h_x_ways_known, .inl (cI, 577, .inl x_ways_known)), (h_x_ways_found, .inl (cI, 6347, .inl x_ways_found)), (h_x_measured, .inr (0, [.int x_measured_which, .int x_measured_x, .int x_measured_y, .int x_measured_row, .int x_measured_table])), (h_x_pairCounts, .inl (cI, 16, .inl x_pairCounts))]) := by
  refine CtI.of (by decide +kernel) rfl ?_
  intro p e s m below meth c A hc
  refine G_lv (lv' := [(0, .ref h_x), (1, .int a1), (2, .int a2)]) (lsame_cons rfl (lsame_cons rfl (lsame_cons rfl lsame_nil))) ?_
  unfold f_X5_pairsAheadOf at h
  refine G_iconst (v := 0) hc dX5_pairsAheadOf_0 (by decide) ?_
  refine G_istore_n (lv' := [(0, .ref h_x), (1, .int a1), (2, .int a2), (3, .int (0 : Int32))]) hc dX5_pairsAheadOf_1 rfl rfl ?_
  refine G_iconst (v := 0) hc dX5_pairsAheadOf_2 (by decide) ?_
  refine G_istore (lv' := [(0, .ref h_x), (1, .int a1), (2, .int a2), (3, .int (0 : Int32)), (4, .int (0 : Int32))]) hc dX5_pairsAheadOf_3 rfl rfl ?_
  obtain ⟨e3, hl4, h⟩ := ob h
  have hK8 : G p l e (rmk 1) s m [.ref h_x, .int a1, .int a2].toArray below meth c D A 6 0 0 (QI below [.ref h_x, .int a1, .int a2].toArray s D A (PoI res [(h_x, .inr (5, [.ref h_x_now, .ref h_past, .int x_pastStates, .ref h_x_text, .ref h_x_trial, .ref h_x_ways, .ref h_x_measured, .ref h_x_pairCounts])), (h_x_now, .inr (1, [.int x_now_row, .int x_now_table, .int x_now_kept, .ref h_x_now_book])), (h_x_now_book, .inl (cI, 8, .inl x_now_book)), (h_x_text, .inr (2, [.ref h_x_text_signs, .int x_text_length, .int x_text_word, .int x_text_kind, .int x_text_number, .int x_text_row, .int x_text_reached, .int x_text_broken])), (h_x_text_signs, .inl (cI, 60, .inl x_text_signs)), (h_x_trial, .inr (3, [.ref h_x_trial_state, .int x_trial_orders, .int x_trial_position, .int x_trial_reason, .int x_trial_cause])), (h_x_trial_state, .inr (1, [.int x_trial_state_row, .int x_trial_state_table, .int x_trial_state_kept, .ref h_x_trial_state_book])), (h_x_trial_state_book, .inl (cI, 8, .inl x_trial_state_book)), (h_x_ways, .inr (4, [.ref h_x_ways_stock, .ref h_x_ways_weight, .ref h_x_ways_known, .ref h_x_ways_found, nv x_ways_measure h_x_measured, .int x_ways_values, .int x_ways_row, .int x_ways_rowCodes, .int x_ways_table, .int x_ways_length, .int x_ways_full, .int x_ways_pairs, .int x_ways_codes])), (h_x_ways_stock, .inl (cI, 16, .inl x_ways_stock)), (h_x_ways_weight, .inl (cI, 16, .inl x_ways_weight)), (h_x_ways_known, .inl (cI, 577, .inl x_ways_known)), (h_x_ways_found, .inl (cI, 6347, .inl x_ways_found)), (h_x_measured, .inr (0, [.int x_measured_which, .int x_measured_x, .int x_measured_y, .int x_measured_row, .int x_measured_table])), (h_x_pairCounts, .inl (cI, 16, .inl x_pairCounts))])) [(h_x, .inr (5, [.ref h_x_now, .ref h_past, .int x_pastStates, .ref h_x_text, .ref h_x_trial, .ref h_x_ways, .ref h_x_measured, .ref h_x_pairCounts])), (h_x_now, .inr (1, [.int x_now_row, .int x_now_table, .int x_now_kept, .ref h_x_now_book])), (h_x_now_book, .inl (cI, 8, .inl x_now_book)), (h_x_text, .inr (2, [.ref h_x_text_signs, .int x_text_length, .int x_text_word, .int x_text_kind, .int x_text_number, .int x_text_row, .int x_text_reached, .int x_text_broken])), (h_x_text_signs, .inl (cI, 60, .inl x_text_signs)), (h_x_trial, .inr (3, [.ref h_x_trial_state, .int x_trial_orders, .int x_trial_position, .int x_trial_reason, .int x_trial_cause])), (h_x_trial_state, .inr (1, [.int x_trial_state_row, .int x_trial_state_table, .int x_trial_state_kept, .ref h_x_trial_state_book])), (h_x_trial_state_book, .inl (cI, 8, .inl x_trial_state_book)), (h_x_ways, .inr (4, [.ref h_x_ways_stock, .ref h_x_ways_weight, .ref h_x_ways_known, .ref h_x_ways_found, nv x_ways_measure h_x_measured, .int x_ways_values, .int x_ways_row, .int x_ways_rowCodes, .int x_ways_table, .int x_ways_length, .int x_ways_full, .int x_ways_pairs, .int x_ways_codes])), (h_x_ways_stock, .inl (cI, 16, .inl x_ways_stock)), (h_x_ways_weight, .inl (cI, 16, .inl x_ways_weight)), (h_x_ways_known, .inl (cI, 577, .inl x_ways_known)), (h_x_ways_found, .inl (cI, 6347, .inl x_ways_found)), (h_x_measured, .inr (0, [.int x_measured_which, .int x_measured_x, .int x_measured_y, .int x_measured_row, .int x_measured_table])), (h_x_pairCounts, .inl (cI, 16, .inl x_pairCounts))] [(3, .int e3)] 64 [] := by
    refine G_iload_n hc dX5_pairsAheadOf_64 rfl ?_
    have h := Option.some.inj h
    subst h
    exact G_ireturn hc ⟨rfl, rfl⟩ dX5_pairsAheadOf_65
  clear h
  have hL5 : ∀ (n6 : Nat) (u1 : Int32) (u2 : Int32), f_X5_pairsAheadOf_L5 F x_pairCounts a1 a2 n6 u1 u2 = some e3 → G p l e (rmk 1) s m [.ref h_x, .int a1, .int a2].toArray below meth c D A 6 0 0 (QI below [.ref h_x, .int a1, .int a2].toArray s D A (PoI res [(h_x, .inr (5, [.ref h_x_now, .ref h_past, .int x_pastStates, .ref h_x_text, .ref h_x_trial, .ref h_x_ways, .ref h_x_measured, .ref h_x_pairCounts])), (h_x_now, .inr (1, [.int x_now_row, .int x_now_table, .int x_now_kept, .ref h_x_now_book])), (h_x_now_book, .inl (cI, 8, .inl x_now_book)), (h_x_text, .inr (2, [.ref h_x_text_signs, .int x_text_length, .int x_text_word, .int x_text_kind, .int x_text_number, .int x_text_row, .int x_text_reached, .int x_text_broken])), (h_x_text_signs, .inl (cI, 60, .inl x_text_signs)), (h_x_trial, .inr (3, [.ref h_x_trial_state, .int x_trial_orders, .int x_trial_position, .int x_trial_reason, .int x_trial_cause])), (h_x_trial_state, .inr (1, [.int x_trial_state_row, .int x_trial_state_table, .int x_trial_state_kept, .ref h_x_trial_state_book])), (h_x_trial_state_book, .inl (cI, 8, .inl x_trial_state_book)), (h_x_ways, .inr (4, [.ref h_x_ways_stock, .ref h_x_ways_weight, .ref h_x_ways_known, .ref h_x_ways_found, nv x_ways_measure h_x_measured, .int x_ways_values, .int x_ways_row, .int x_ways_rowCodes, .int x_ways_table, .int x_ways_length, .int x_ways_full, .int x_ways_pairs, .int x_ways_codes])), (h_x_ways_stock, .inl (cI, 16, .inl x_ways_stock)), (h_x_ways_weight, .inl (cI, 16, .inl x_ways_weight)), (h_x_ways_known, .inl (cI, 577, .inl x_ways_known)), (h_x_ways_found, .inl (cI, 6347, .inl x_ways_found)), (h_x_measured, .inr (0, [.int x_measured_which, .int x_measured_x, .int x_measured_y, .int x_measured_row, .int x_measured_table])), (h_x_pairCounts, .inl (cI, 16, .inl x_pairCounts))])) [(h_x, .inr (5, [.ref h_x_now, .ref h_past, .int x_pastStates, .ref h_x_text, .ref h_x_trial, .ref h_x_ways, .ref h_x_measured, .ref h_x_pairCounts])), (h_x_now, .inr (1, [.int x_now_row, .int x_now_table, .int x_now_kept, .ref h_x_now_book])), (h_x_now_book, .inl (cI, 8, .inl x_now_book)), (h_x_text, .inr (2, [.ref h_x_text_signs, .int x_text_length, .int x_text_word, .int x_text_kind, .int x_text_number, .int x_text_row, .int x_text_reached, .int x_text_broken])), (h_x_text_signs, .inl (cI, 60, .inl x_text_signs)), (h_x_trial, .inr (3, [.ref h_x_trial_state, .int x_trial_orders, .int x_trial_position, .int x_trial_reason, .int x_trial_cause])), (h_x_trial_state, .inr (1, [.int x_trial_state_row, .int x_trial_state_table, .int x_trial_state_kept, .ref h_x_trial_state_book])), (h_x_trial_state_book, .inl (cI, 8, .inl x_trial_state_book)), (h_x_ways, .inr (4, [.ref h_x_ways_stock, .ref h_x_ways_weight, .ref h_x_ways_known, .ref h_x_ways_found, nv x_ways_measure h_x_measured, .int x_ways_values, .int x_ways_row, .int x_ways_rowCodes, .int x_ways_table, .int x_ways_length, .int x_ways_full, .int x_ways_pairs, .int x_ways_codes])), (h_x_ways_stock, .inl (cI, 16, .inl x_ways_stock)), (h_x_ways_weight, .inl (cI, 16, .inl x_ways_weight)), (h_x_ways_known, .inl (cI, 577, .inl x_ways_known)), (h_x_ways_found, .inl (cI, 6347, .inl x_ways_found)), (h_x_measured, .inr (0, [.int x_measured_which, .int x_measured_x, .int x_measured_y, .int x_measured_row, .int x_measured_table])), (h_x_pairCounts, .inl (cI, 16, .inl x_pairCounts))] [(0, .ref h_x), (1, .int a1), (2, .int a2), (3, .int u1), (4, .int u2)] 5 [] := by
    intro n6
    induction n6 with
    | zero =>
      intro u1 u2 h
      exact nz h
    | succ n6 ih7 =>
      intro u1 u2 h
      rw [f_X5_pairsAheadOf_L5] at h
      refine G_iload hc dX5_pairsAheadOf_5 rfl ?_
      refine G_aload_n hc dX5_pairsAheadOf_7 rfl ?_
      refine G_get hc f_X5_48 0 rfl rfl dX5_pairsAheadOf_8 ?_
      refine G_alen (v := 16) hc 14 rfl (by decide) dX5_pairsAheadOf_11 ?_
      refine G_icmp_ge (tgt := 64) hc dX5_pairsAheadOf_12 (by decide) (fun c24 => ?_) (fun c24 => ?_)
      · have h := ip h c24
        have h := Option.some.inj h
        subst h
        refine G_lv (lv' := [(3, .int u1)]) (lsame_cons rfl lsame_nil) ?_
        exact hK8
      · have h := inn h c24
        refine G_aload_n hc dX5_pairsAheadOf_15 rfl ?_
        refine G_get hc f_X5_48 0 rfl rfl dX5_pairsAheadOf_16 ?_
        refine G_iload hc dX5_pairsAheadOf_19 rfl ?_
        obtain ⟨v9, i_v9, e_v9, h⟩ := rb h
        refine G_iald hc 14 rfl i_v9 e_v9 dX5_pairsAheadOf_21 ?_
        refine G_iload_n hc dX5_pairsAheadOf_22 rfl ?_
        obtain ⟨t10, hr12, h⟩ := ob h
        have hj11 : G p l e (rmk 1) s m [.ref h_x, .int a1, .int a2].toArray below meth c D A 6 0 0 (QI below [.ref h_x, .int a1, .int a2].toArray s D A (PoI res [(h_x, .inr (5, [.ref h_x_now, .ref h_past, .int x_pastStates, .ref h_x_text, .ref h_x_trial, .ref h_x_ways, .ref h_x_measured, .ref h_x_pairCounts])), (h_x_now, .inr (1, [.int x_now_row, .int x_now_table, .int x_now_kept, .ref h_x_now_book])), (h_x_now_book, .inl (cI, 8, .inl x_now_book)), (h_x_text, .inr (2, [.ref h_x_text_signs, .int x_text_length, .int x_text_word, .int x_text_kind, .int x_text_number, .int x_text_row, .int x_text_reached, .int x_text_broken])), (h_x_text_signs, .inl (cI, 60, .inl x_text_signs)), (h_x_trial, .inr (3, [.ref h_x_trial_state, .int x_trial_orders, .int x_trial_position, .int x_trial_reason, .int x_trial_cause])), (h_x_trial_state, .inr (1, [.int x_trial_state_row, .int x_trial_state_table, .int x_trial_state_kept, .ref h_x_trial_state_book])), (h_x_trial_state_book, .inl (cI, 8, .inl x_trial_state_book)), (h_x_ways, .inr (4, [.ref h_x_ways_stock, .ref h_x_ways_weight, .ref h_x_ways_known, .ref h_x_ways_found, nv x_ways_measure h_x_measured, .int x_ways_values, .int x_ways_row, .int x_ways_rowCodes, .int x_ways_table, .int x_ways_length, .int x_ways_full, .int x_ways_pairs, .int x_ways_codes])), (h_x_ways_stock, .inl (cI, 16, .inl x_ways_stock)), (h_x_ways_weight, .inl (cI, 16, .inl x_ways_weight)), (h_x_ways_known, .inl (cI, 577, .inl x_ways_known)), (h_x_ways_found, .inl (cI, 6347, .inl x_ways_found)), (h_x_measured, .inr (0, [.int x_measured_which, .int x_measured_x, .int x_measured_y, .int x_measured_row, .int x_measured_table])), (h_x_pairCounts, .inl (cI, 16, .inl x_pairCounts))])) [(h_x, .inr (5, [.ref h_x_now, .ref h_past, .int x_pastStates, .ref h_x_text, .ref h_x_trial, .ref h_x_ways, .ref h_x_measured, .ref h_x_pairCounts])), (h_x_now, .inr (1, [.int x_now_row, .int x_now_table, .int x_now_kept, .ref h_x_now_book])), (h_x_now_book, .inl (cI, 8, .inl x_now_book)), (h_x_text, .inr (2, [.ref h_x_text_signs, .int x_text_length, .int x_text_word, .int x_text_kind, .int x_text_number, .int x_text_row, .int x_text_reached, .int x_text_broken])), (h_x_text_signs, .inl (cI, 60, .inl x_text_signs)), (h_x_trial, .inr (3, [.ref h_x_trial_state, .int x_trial_orders, .int x_trial_position, .int x_trial_reason, .int x_trial_cause])), (h_x_trial_state, .inr (1, [.int x_trial_state_row, .int x_trial_state_table, .int x_trial_state_kept, .ref h_x_trial_state_book])), (h_x_trial_state_book, .inl (cI, 8, .inl x_trial_state_book)), (h_x_ways, .inr (4, [.ref h_x_ways_stock, .ref h_x_ways_weight, .ref h_x_ways_known, .ref h_x_ways_found, nv x_ways_measure h_x_measured, .int x_ways_values, .int x_ways_row, .int x_ways_rowCodes, .int x_ways_table, .int x_ways_length, .int x_ways_full, .int x_ways_pairs, .int x_ways_codes])), (h_x_ways_stock, .inl (cI, 16, .inl x_ways_stock)), (h_x_ways_weight, .inl (cI, 16, .inl x_ways_weight)), (h_x_ways_known, .inl (cI, 577, .inl x_ways_known)), (h_x_ways_found, .inl (cI, 6347, .inl x_ways_found)), (h_x_measured, .inr (0, [.int x_measured_which, .int x_measured_x, .int x_measured_y, .int x_measured_row, .int x_measured_table])), (h_x_pairCounts, .inl (cI, 16, .inl x_pairCounts))] [(0, .ref h_x), (1, .int a1), (2, .int a2), (3, .int u1), (4, .int u2)] 31 [.int t10] := by
          refine G_istore (lv' := [(0, .ref h_x), (1, .int a1), (2, .int a2), (3, .int u1), (4, .int u2), (5, .int t10)]) hc dX5_pairsAheadOf_31 rfl rfl ?_
          refine G_aload_n hc dX5_pairsAheadOf_33 rfl ?_
          refine G_get hc f_X5_48 0 rfl rfl dX5_pairsAheadOf_34 ?_
          refine G_iload hc dX5_pairsAheadOf_37 rfl ?_
          obtain ⟨v14, i_v14, e_v14, h⟩ := rb h
          refine G_iald hc 14 rfl i_v14 e_v14 dX5_pairsAheadOf_39 ?_
          refine G_iload_n hc dX5_pairsAheadOf_40 rfl ?_
          obtain ⟨t15, hr17, h⟩ := ob h
          have hj16 : G p l e (rmk 1) s m [.ref h_x, .int a1, .int a2].toArray below meth c D A 6 0 0 (QI below [.ref h_x, .int a1, .int a2].toArray s D A (PoI res [(h_x, .inr (5, [.ref h_x_now, .ref h_past, .int x_pastStates, .ref h_x_text, .ref h_x_trial, .ref h_x_ways, .ref h_x_measured, .ref h_x_pairCounts])), (h_x_now, .inr (1, [.int x_now_row, .int x_now_table, .int x_now_kept, .ref h_x_now_book])), (h_x_now_book, .inl (cI, 8, .inl x_now_book)), (h_x_text, .inr (2, [.ref h_x_text_signs, .int x_text_length, .int x_text_word, .int x_text_kind, .int x_text_number, .int x_text_row, .int x_text_reached, .int x_text_broken])), (h_x_text_signs, .inl (cI, 60, .inl x_text_signs)), (h_x_trial, .inr (3, [.ref h_x_trial_state, .int x_trial_orders, .int x_trial_position, .int x_trial_reason, .int x_trial_cause])), (h_x_trial_state, .inr (1, [.int x_trial_state_row, .int x_trial_state_table, .int x_trial_state_kept, .ref h_x_trial_state_book])), (h_x_trial_state_book, .inl (cI, 8, .inl x_trial_state_book)), (h_x_ways, .inr (4, [.ref h_x_ways_stock, .ref h_x_ways_weight, .ref h_x_ways_known, .ref h_x_ways_found, nv x_ways_measure h_x_measured, .int x_ways_values, .int x_ways_row, .int x_ways_rowCodes, .int x_ways_table, .int x_ways_length, .int x_ways_full, .int x_ways_pairs, .int x_ways_codes])), (h_x_ways_stock, .inl (cI, 16, .inl x_ways_stock)), (h_x_ways_weight, .inl (cI, 16, .inl x_ways_weight)), (h_x_ways_known, .inl (cI, 577, .inl x_ways_known)), (h_x_ways_found, .inl (cI, 6347, .inl x_ways_found)), (h_x_measured, .inr (0, [.int x_measured_which, .int x_measured_x, .int x_measured_y, .int x_measured_row, .int x_measured_table])), (h_x_pairCounts, .inl (cI, 16, .inl x_pairCounts))])) [(h_x, .inr (5, [.ref h_x_now, .ref h_past, .int x_pastStates, .ref h_x_text, .ref h_x_trial, .ref h_x_ways, .ref h_x_measured, .ref h_x_pairCounts])), (h_x_now, .inr (1, [.int x_now_row, .int x_now_table, .int x_now_kept, .ref h_x_now_book])), (h_x_now_book, .inl (cI, 8, .inl x_now_book)), (h_x_text, .inr (2, [.ref h_x_text_signs, .int x_text_length, .int x_text_word, .int x_text_kind, .int x_text_number, .int x_text_row, .int x_text_reached, .int x_text_broken])), (h_x_text_signs, .inl (cI, 60, .inl x_text_signs)), (h_x_trial, .inr (3, [.ref h_x_trial_state, .int x_trial_orders, .int x_trial_position, .int x_trial_reason, .int x_trial_cause])), (h_x_trial_state, .inr (1, [.int x_trial_state_row, .int x_trial_state_table, .int x_trial_state_kept, .ref h_x_trial_state_book])), (h_x_trial_state_book, .inl (cI, 8, .inl x_trial_state_book)), (h_x_ways, .inr (4, [.ref h_x_ways_stock, .ref h_x_ways_weight, .ref h_x_ways_known, .ref h_x_ways_found, nv x_ways_measure h_x_measured, .int x_ways_values, .int x_ways_row, .int x_ways_rowCodes, .int x_ways_table, .int x_ways_length, .int x_ways_full, .int x_ways_pairs, .int x_ways_codes])), (h_x_ways_stock, .inl (cI, 16, .inl x_ways_stock)), (h_x_ways_weight, .inl (cI, 16, .inl x_ways_weight)), (h_x_ways_known, .inl (cI, 577, .inl x_ways_known)), (h_x_ways_found, .inl (cI, 6347, .inl x_ways_found)), (h_x_measured, .inr (0, [.int x_measured_which, .int x_measured_x, .int x_measured_y, .int x_measured_row, .int x_measured_table])), (h_x_pairCounts, .inl (cI, 16, .inl x_pairCounts))] [(0, .ref h_x), (1, .int a1), (2, .int a2), (3, .int t15), (4, .int u2)] 58 [] := by
            obtain ⟨v23, e_v23, h⟩ := sb h
            refine G_iinc (v := v23) (lv' := [(0, .ref h_x), (1, .int a1), (2, .int a2), (3, .int t15), (4, .int v23)]) hc dX5_pairsAheadOf_58 rfl (e_v23.trans rfl) rfl rfl ?_
            refine G_goto (tgt := 5) hc dX5_pairsAheadOf_61 (by decide) ?_
            refine G_lv (lv' := [(0, .ref h_x), (1, .int a1), (2, .int a2), (3, .int t15), (4, .int v23)]) (lsame_cons rfl (lsame_cons rfl (lsame_cons rfl (lsame_cons rfl (lsame_cons rfl lsame_nil))))) ?_
            exact ih7 _ _ h
          clear h
          have h := hr17
          clear hr17
          refine G_icmp_gt (tgt := 55) hc dX5_pairsAheadOf_41 (by decide) (fun c22 => ?_) (fun c22 => ?_)
          · have h := ip h c22
            obtain ⟨v18, e_v18, h⟩ := sb h
            refine G_iinc (v := v18) (lv' := [(0, .ref h_x), (1, .int a1), (2, .int a2), (3, .int v18), (4, .int u2), (5, .int t10)]) hc dX5_pairsAheadOf_55 rfl (e_v18.trans rfl) rfl rfl ?_
            have h := Option.some.inj h
            subst h
            refine G_lv (lv' := [(0, .ref h_x), (1, .int a1), (2, .int a2), (3, .int v18), (4, .int u2)]) (lsame_cons rfl (lsame_cons rfl (lsame_cons rfl (lsame_cons rfl (lsame_cons rfl lsame_nil))))) ?_
            exact hj16
          · have h := inn h c22
            refine G_iload hc dX5_pairsAheadOf_44 rfl ?_
            refine G_if_eq (tgt := 58) hc dX5_pairsAheadOf_46 (by decide) (fun c21 => ?_) (fun c21 => ?_)
            · have h := ip h c21
              have h := Option.some.inj h
              subst h
              refine G_lv (lv' := [(0, .ref h_x), (1, .int a1), (2, .int a2), (3, .int u1), (4, .int u2)]) (lsame_cons rfl (lsame_cons rfl (lsame_cons rfl (lsame_cons rfl (lsame_cons rfl lsame_nil))))) ?_
              exact hj16
            · have h := inn h c21
              refine G_iload hc dX5_pairsAheadOf_49 rfl ?_
              refine G_iload_n hc dX5_pairsAheadOf_51 rfl ?_
              refine G_icmp_ge (tgt := 58) hc dX5_pairsAheadOf_52 (by decide) (fun c20 => ?_) (fun c20 => ?_)
              · have h := ip h c20
                have h := Option.some.inj h
                subst h
                refine G_lv (lv' := [(0, .ref h_x), (1, .int a1), (2, .int a2), (3, .int u1), (4, .int u2)]) (lsame_cons rfl (lsame_cons rfl (lsame_cons rfl (lsame_cons rfl (lsame_cons rfl lsame_nil))))) ?_
                exact hj16
              · have h := inn h c20
                obtain ⟨v19, e_v19, h⟩ := sb h
                refine G_iinc (v := v19) (lv' := [(0, .ref h_x), (1, .int a1), (2, .int a2), (3, .int v19), (4, .int u2), (5, .int t10)]) hc dX5_pairsAheadOf_55 rfl (e_v19.trans rfl) rfl rfl ?_
                have h := Option.some.inj h
                subst h
                refine G_lv (lv' := [(0, .ref h_x), (1, .int a1), (2, .int a2), (3, .int v19), (4, .int u2)]) (lsame_cons rfl (lsame_cons rfl (lsame_cons rfl (lsame_cons rfl (lsame_cons rfl lsame_nil))))) ?_
                exact hj16
        clear h
        have h := hr12
        clear hr12
        refine G_icmp_ne (tgt := 30) hc dX5_pairsAheadOf_23 (by decide) (fun c13 => ?_) (fun c13 => ?_)
        · have h := inn h c13
          refine G_iconst (v := 0) hc dX5_pairsAheadOf_30 (by decide) ?_
          have h := Option.some.inj h
          subst h
          refine G_lv (lv' := [(0, .ref h_x), (1, .int a1), (2, .int a2), (3, .int u1), (4, .int u2)]) (lsame_cons rfl (lsame_cons rfl (lsame_cons rfl (lsame_cons rfl (lsame_cons rfl lsame_nil))))) ?_
          exact hj11
        · have h := ip h c13
          refine G_iconst (v := 1) hc dX5_pairsAheadOf_26 (by decide) ?_
          refine G_goto (tgt := 31) hc dX5_pairsAheadOf_27 (by decide) ?_
          have h := Option.some.inj h
          subst h
          refine G_lv (lv' := [(0, .ref h_x), (1, .int a1), (2, .int a2), (3, .int u1), (4, .int u2)]) (lsame_cons rfl (lsame_cons rfl (lsame_cons rfl (lsame_cons rfl (lsame_cons rfl lsame_nil))))) ?_
          exact hj11
  refine G_lv (lv' := [(0, .ref h_x), (1, .int a1), (2, .int a2), (3, .int (0 : Int32)), (4, .int (0 : Int32))]) (lsame_cons rfl (lsame_cons rfl (lsame_cons rfl (lsame_cons rfl (lsame_cons rfl lsame_nil))))) ?_
  exact hL5 F _ _ hl4
set_option maxHeartbeats 4000000 in
set_option maxRecDepth 100000 in
theorem c_X5_pairAt (l : Launch) (D : va_G) (cI cS : ClassId) (X : XP) (F : Nat) (h_x h_x_now h_x_now_book h_x_text h_x_text_signs h_x_trial h_x_trial_state h_x_trial_state_book h_x_ways h_x_ways_stock h_x_ways_weight h_x_ways_known h_x_ways_found h_x_measured h_x_pairCounts h_past : Nat) (x_pastStates : Int32) (x_now_row : Int32) (x_now_table : Int32) (x_now_kept : Int32) (x_now_book : Nat → Int32) (x_text_length : Int32) (x_text_word : Int32) (x_text_kind : Int32) (x_text_number : Int32) (x_text_row : Int32) (x_text_reached : Int32) (x_text_broken : Int32) (x_text_signs : Nat → Int32) (x_trial_orders : Int32) (x_trial_position : Int32) (x_trial_reason : Int32) (x_trial_cause : Int32) (x_trial_state_row : Int32) (x_trial_state_table : Int32) (x_trial_state_kept : Int32) (x_trial_state_book : Nat → Int32) (x_ways_measure : Bool) (x_ways_values : Int32) (x_ways_row : Int32) (x_ways_rowCodes : Int32) (x_ways_table : Int32) (x_ways_length : Int32) (x_ways_full : Int32) (x_ways_pairs : Int32) (x_ways_codes : Int32) (x_ways_stock : Nat → Int32) (x_ways_weight : Nat → Int32) (x_ways_known : Nat → Int32) (x_ways_found : Nat → Int32) (x_measured_which : Int32) (x_measured_x : Int32) (x_measured_y : Int32) (x_measured_row : Int32) (x_measured_table : Int32) (x_pairCounts : Nat → Int32) (a1 : Int32) (a2 : Int32) {res : Int32 × (Nat → Int32)} (h : f_X5_pairAt F x_now_row x_pairCounts a1 a2 = some res) : CtI l D cI cS X yX5_pairAt cX5_pairAt 4 (some .int) 3 [.ref h_x, .int a1, .int a2] [(h_x, .inr (5, [.ref h_x_now, .ref h_past, .int x_pastStates, .ref h_x_text, .ref h_x_trial, .ref h_x_ways, .ref h_x_measured, .ref h_x_pairCounts])), (h_x_now, .inr (1, [.int x_now_row, .int x_now_table, .int x_now_kept, .ref h_x_now_book])), (h_x_now_book, .inl (cI, 8, .inl x_now_book)), (h_x_text, .inr (2, [.ref h_x_text_signs, .int x_text_length, .int x_text_word, .int x_text_kind, .int x_text_number, .int x_text_row, .int x_text_reached, .int x_text_broken])), (h_x_text_signs, .inl (cI, 60, .inl x_text_signs)), (h_x_trial, .inr (3, [.ref h_x_trial_state, .int x_trial_orders, .int x_trial_position, .int x_trial_reason, .int x_trial_cause])), (h_x_trial_state, .inr (1, [.int x_trial_state_row, .int x_trial_state_table, .int x_trial_state_kept, .ref h_x_trial_state_book])), (h_x_trial_state_book, .inl (cI, 8, .inl x_trial_state_book)), (h_x_ways, .inr (4, [.ref h_x_ways_stock, .ref h_x_ways_weight, .ref h_x_ways_known, .ref h_x_ways_found, nv x_ways_measure h_x_measured, .int x_ways_values, .int x_ways_row, .int x_ways_rowCodes, .int x_ways_table, .int x_ways_length, .int x_ways_full, .int x_ways_pairs, .int x_ways_codes])), (h_x_ways_stock, .inl (cI, 16, .inl x_ways_stock)), (h_x_ways_weight, .inl (cI, 16, .inl x_ways_weight)), (h_x_ways_known, .inl (cI, 577, .inl x_ways_known)), (h_x_ways_found, .inl (cI, 6347, .inl x_ways_found)), (h_x_measured, .inr (0, [.int x_measured_which, .int x_measured_x, .int x_measured_y, .int x_measured_row, .int x_measured_table])), (h_x_pairCounts, .inl (cI, 16, .inl x_pairCounts))] (PoI res.1 [(h_x, .inr (5, [.ref h_x_now, .ref h_past, .int x_pastStates, .ref h_x_text, .ref h_x_trial, .ref h_x_ways, .ref h_x_measured, .ref h_x_pairCounts])), (h_x_now, .inr (1, [.int x_now_row, .int x_now_table, .int x_now_kept, .ref h_x_now_book])), (h_x_now_book, .inl (cI, 8, .inl x_now_book)), (h_x_text, .inr (2, [.ref h_x_text_signs, .int x_text_length, .int x_text_word, .int x_text_kind, .int x_text_number, .int x_text_row, .int x_text_reached, .int x_text_broken])), (h_x_text_signs, .inl (cI, 60, .inl x_text_signs)), (h_x_trial, .inr (3, [.ref h_x_trial_state, .int x_trial_orders, .int x_trial_position, .int x_trial_reason, .int x_trial_cause])), (h_x_trial_state, .inr (1, [.int x_trial_state_row, .int x_trial_state_table, .int x_trial_state_kept, .ref h_x_trial_state_book])), (h_x_trial_state_book, .inl (cI, 8, .inl x_trial_state_book)), (h_x_ways, .inr (4, [.ref h_x_ways_stock, .ref h_x_ways_weight, .ref h_x_ways_known, .ref h_x_ways_found, nv x_ways_measure h_x_measured, .int x_ways_values, .int x_ways_row, .int x_ways_rowCodes, .int x_ways_table, .int x_ways_length, .int x_ways_full, .int x_ways_pairs, .int x_ways_codes])), (h_x_ways_stock, .inl (cI, 16, .inl x_ways_stock)), (h_x_ways_weight, .inl (cI, 16, .inl x_ways_weight)), (h_x_ways_known, .inl (cI, 577, .inl x_ways_known)), (h_x_ways_found, .inl (cI, 6347, .inl x_ways_found)), (h_x_measured, .inr (0, [.int x_measured_which, .int x_measured_x, .int x_measured_y, .int x_measured_row, .int x_measured_table])), (h_x_pairCounts, .inl (cI, 16, .inl res.2))]) := by
  refine CtI.of (by decide +kernel) rfl ?_
  intro p e s m below meth c A hc
  refine G_lv (lv' := [(0, .ref h_x), (1, .int a1), (2, .int a2)]) (lsame_cons rfl (lsame_cons rfl (lsame_cons rfl lsame_nil))) ?_
  unfold f_X5_pairAt at h
  refine G_iload_n hc dX5_pairAt_0 rfl ?_
  refine G_bipush (v := 15) hc dX5_pairAt_1 (by decide) ?_
  obtain ⟨z1, hu2, h⟩ := ob h
  refine G_callSI (ws2 := [(h_x, .inr (5, [.ref h_x_now, .ref h_past, .int x_pastStates, .ref h_x_text, .ref h_x_trial, .ref h_x_ways, .ref h_x_measured, .ref h_x_pairCounts])), (h_x_now, .inr (1, [.int x_now_row, .int x_now_table, .int x_now_kept, .ref h_x_now_book])), (h_x_now_book, .inl (cI, 8, .inl x_now_book)), (h_x_text, .inr (2, [.ref h_x_text_signs, .int x_text_length, .int x_text_word, .int x_text_kind, .int x_text_number, .int x_text_row, .int x_text_reached, .int x_text_broken])), (h_x_text_signs, .inl (cI, 60, .inl x_text_signs)), (h_x_trial, .inr (3, [.ref h_x_trial_state, .int x_trial_orders, .int x_trial_position, .int x_trial_reason, .int x_trial_cause])), (h_x_trial_state, .inr (1, [.int x_trial_state_row, .int x_trial_state_table, .int x_trial_state_kept, .ref h_x_trial_state_book])), (h_x_trial_state_book, .inl (cI, 8, .inl x_trial_state_book)), (h_x_ways, .inr (4, [.ref h_x_ways_stock, .ref h_x_ways_weight, .ref h_x_ways_known, .ref h_x_ways_found, nv x_ways_measure h_x_measured, .int x_ways_values, .int x_ways_row, .int x_ways_rowCodes, .int x_ways_table, .int x_ways_length, .int x_ways_full, .int x_ways_pairs, .int x_ways_codes])), (h_x_ways_stock, .inl (cI, 16, .inl x_ways_stock)), (h_x_ways_weight, .inl (cI, 16, .inl x_ways_weight)), (h_x_ways_known, .inl (cI, 577, .inl x_ways_known)), (h_x_ways_found, .inl (cI, 6347, .inl x_ways_found)), (h_x_measured, .inr (0, [.int x_measured_which, .int x_measured_x, .int x_measured_y, .int x_measured_row, .int x_measured_table])), (h_x_pairCounts, .inl (cI, 16, .inl x_pairCounts))]) hc m_X5_52 (c_X5_within l D cI cS X F a1 (15 : Int32) hu2) [] (rmok_of (Nat.le_of_ble_eq_true rfl)) ⟨Nat.zero_le _, Nat.zero_le _⟩ rfl rfl rfl rfl rfl ⟨rfl, rfl, rfl⟩ dX5_pairAt_3 ?_
  refine G_if_eq (tgt := 17) hc dX5_pairAt_6 (by decide) (fun c40 => ?_) (fun c40 => ?_)
  · have h := ip h c40
    refine G_ldc (v := -1000001) hc k_X5_56 dX5_pairAt_17 ?_
    have h := Option.some.inj h
    subst h
    exact G_ireturn hc ⟨rfl, rfl⟩ dX5_pairAt_19
  · have h := inn h c40
    refine G_iload_n hc dX5_pairAt_9 rfl ?_
    refine G_iconst (v := 1) hc dX5_pairAt_10 (by decide) ?_
    obtain ⟨z3, hu4, h⟩ := ob h
    refine G_callSI (ws2 := [(h_x, .inr (5, [.ref h_x_now, .ref h_past, .int x_pastStates, .ref h_x_text, .ref h_x_trial, .ref h_x_ways, .ref h_x_measured, .ref h_x_pairCounts])), (h_x_now, .inr (1, [.int x_now_row, .int x_now_table, .int x_now_kept, .ref h_x_now_book])), (h_x_now_book, .inl (cI, 8, .inl x_now_book)), (h_x_text, .inr (2, [.ref h_x_text_signs, .int x_text_length, .int x_text_word, .int x_text_kind, .int x_text_number, .int x_text_row, .int x_text_reached, .int x_text_broken])), (h_x_text_signs, .inl (cI, 60, .inl x_text_signs)), (h_x_trial, .inr (3, [.ref h_x_trial_state, .int x_trial_orders, .int x_trial_position, .int x_trial_reason, .int x_trial_cause])), (h_x_trial_state, .inr (1, [.int x_trial_state_row, .int x_trial_state_table, .int x_trial_state_kept, .ref h_x_trial_state_book])), (h_x_trial_state_book, .inl (cI, 8, .inl x_trial_state_book)), (h_x_ways, .inr (4, [.ref h_x_ways_stock, .ref h_x_ways_weight, .ref h_x_ways_known, .ref h_x_ways_found, nv x_ways_measure h_x_measured, .int x_ways_values, .int x_ways_row, .int x_ways_rowCodes, .int x_ways_table, .int x_ways_length, .int x_ways_full, .int x_ways_pairs, .int x_ways_codes])), (h_x_ways_stock, .inl (cI, 16, .inl x_ways_stock)), (h_x_ways_weight, .inl (cI, 16, .inl x_ways_weight)), (h_x_ways_known, .inl (cI, 577, .inl x_ways_known)), (h_x_ways_found, .inl (cI, 6347, .inl x_ways_found)), (h_x_measured, .inr (0, [.int x_measured_which, .int x_measured_x, .int x_measured_y, .int x_measured_row, .int x_measured_table])), (h_x_pairCounts, .inl (cI, 16, .inl x_pairCounts))]) hc m_X5_52 (c_X5_within l D cI cS X F a2 (1 : Int32) hu4) [] (rmok_of (Nat.le_of_ble_eq_true rfl)) ⟨Nat.zero_le _, Nat.zero_le _⟩ rfl rfl rfl rfl rfl ⟨rfl, rfl, rfl⟩ dX5_pairAt_11 ?_
    refine G_if_ne (tgt := 20) hc dX5_pairAt_14 (by decide) (fun c39 => ?_) (fun c39 => ?_)
    · have h := inn h c39
      refine G_iconst (v := 0) hc dX5_pairAt_20 (by decide) ?_
      refine G_istore_n (lv' := [(0, .ref h_x), (1, .int a1), (2, .int a2), (3, .int (0 : Int32))]) hc dX5_pairAt_21 rfl rfl ?_
      obtain ⟨e7, hl8, h⟩ := ob h
      have hK12 : G p l e (rmk 3) s m [.ref h_x, .int a1, .int a2].toArray below meth c D A 4 0 0 (QI below [.ref h_x, .int a1, .int a2].toArray s D A (PoI res.1 [(h_x, .inr (5, [.ref h_x_now, .ref h_past, .int x_pastStates, .ref h_x_text, .ref h_x_trial, .ref h_x_ways, .ref h_x_measured, .ref h_x_pairCounts])), (h_x_now, .inr (1, [.int x_now_row, .int x_now_table, .int x_now_kept, .ref h_x_now_book])), (h_x_now_book, .inl (cI, 8, .inl x_now_book)), (h_x_text, .inr (2, [.ref h_x_text_signs, .int x_text_length, .int x_text_word, .int x_text_kind, .int x_text_number, .int x_text_row, .int x_text_reached, .int x_text_broken])), (h_x_text_signs, .inl (cI, 60, .inl x_text_signs)), (h_x_trial, .inr (3, [.ref h_x_trial_state, .int x_trial_orders, .int x_trial_position, .int x_trial_reason, .int x_trial_cause])), (h_x_trial_state, .inr (1, [.int x_trial_state_row, .int x_trial_state_table, .int x_trial_state_kept, .ref h_x_trial_state_book])), (h_x_trial_state_book, .inl (cI, 8, .inl x_trial_state_book)), (h_x_ways, .inr (4, [.ref h_x_ways_stock, .ref h_x_ways_weight, .ref h_x_ways_known, .ref h_x_ways_found, nv x_ways_measure h_x_measured, .int x_ways_values, .int x_ways_row, .int x_ways_rowCodes, .int x_ways_table, .int x_ways_length, .int x_ways_full, .int x_ways_pairs, .int x_ways_codes])), (h_x_ways_stock, .inl (cI, 16, .inl x_ways_stock)), (h_x_ways_weight, .inl (cI, 16, .inl x_ways_weight)), (h_x_ways_known, .inl (cI, 577, .inl x_ways_known)), (h_x_ways_found, .inl (cI, 6347, .inl x_ways_found)), (h_x_measured, .inr (0, [.int x_measured_which, .int x_measured_x, .int x_measured_y, .int x_measured_row, .int x_measured_table])), (h_x_pairCounts, .inl (cI, 16, .inl res.2))])) [(h_x, .inr (5, [.ref h_x_now, .ref h_past, .int x_pastStates, .ref h_x_text, .ref h_x_trial, .ref h_x_ways, .ref h_x_measured, .ref h_x_pairCounts])), (h_x_now, .inr (1, [.int x_now_row, .int x_now_table, .int x_now_kept, .ref h_x_now_book])), (h_x_now_book, .inl (cI, 8, .inl x_now_book)), (h_x_text, .inr (2, [.ref h_x_text_signs, .int x_text_length, .int x_text_word, .int x_text_kind, .int x_text_number, .int x_text_row, .int x_text_reached, .int x_text_broken])), (h_x_text_signs, .inl (cI, 60, .inl x_text_signs)), (h_x_trial, .inr (3, [.ref h_x_trial_state, .int x_trial_orders, .int x_trial_position, .int x_trial_reason, .int x_trial_cause])), (h_x_trial_state, .inr (1, [.int x_trial_state_row, .int x_trial_state_table, .int x_trial_state_kept, .ref h_x_trial_state_book])), (h_x_trial_state_book, .inl (cI, 8, .inl x_trial_state_book)), (h_x_ways, .inr (4, [.ref h_x_ways_stock, .ref h_x_ways_weight, .ref h_x_ways_known, .ref h_x_ways_found, nv x_ways_measure h_x_measured, .int x_ways_values, .int x_ways_row, .int x_ways_rowCodes, .int x_ways_table, .int x_ways_length, .int x_ways_full, .int x_ways_pairs, .int x_ways_codes])), (h_x_ways_stock, .inl (cI, 16, .inl x_ways_stock)), (h_x_ways_weight, .inl (cI, 16, .inl x_ways_weight)), (h_x_ways_known, .inl (cI, 577, .inl x_ways_known)), (h_x_ways_found, .inl (cI, 6347, .inl x_ways_found)), (h_x_measured, .inr (0, [.int x_measured_which, .int x_measured_x, .int x_measured_y, .int x_measured_row, .int x_measured_table])), (h_x_pairCounts, .inl (cI, 16, .inl e7))] [(0, .ref h_x), (1, .int a1), (2, .int a2)] 59 [] := by
        refine G_iconst (v := 0) hc dX5_pairAt_59 (by decide) ?_
        refine G_istore_n (lv' := [(0, .ref h_x), (1, .int a1), (2, .int a2), (3, .int (0 : Int32))]) hc dX5_pairAt_60 rfl rfl ?_
        obtain ⟨e19, hl20, h⟩ := ob h
        have hK24 : ∀ ax26, e19 = (Sum.inl ax26) → G p l e (rmk 3) s m [.ref h_x, .int a1, .int a2].toArray below meth c D A 4 0 0 (QI below [.ref h_x, .int a1, .int a2].toArray s D A (PoI res.1 [(h_x, .inr (5, [.ref h_x_now, .ref h_past, .int x_pastStates, .ref h_x_text, .ref h_x_trial, .ref h_x_ways, .ref h_x_measured, .ref h_x_pairCounts])), (h_x_now, .inr (1, [.int x_now_row, .int x_now_table, .int x_now_kept, .ref h_x_now_book])), (h_x_now_book, .inl (cI, 8, .inl x_now_book)), (h_x_text, .inr (2, [.ref h_x_text_signs, .int x_text_length, .int x_text_word, .int x_text_kind, .int x_text_number, .int x_text_row, .int x_text_reached, .int x_text_broken])), (h_x_text_signs, .inl (cI, 60, .inl x_text_signs)), (h_x_trial, .inr (3, [.ref h_x_trial_state, .int x_trial_orders, .int x_trial_position, .int x_trial_reason, .int x_trial_cause])), (h_x_trial_state, .inr (1, [.int x_trial_state_row, .int x_trial_state_table, .int x_trial_state_kept, .ref h_x_trial_state_book])), (h_x_trial_state_book, .inl (cI, 8, .inl x_trial_state_book)), (h_x_ways, .inr (4, [.ref h_x_ways_stock, .ref h_x_ways_weight, .ref h_x_ways_known, .ref h_x_ways_found, nv x_ways_measure h_x_measured, .int x_ways_values, .int x_ways_row, .int x_ways_rowCodes, .int x_ways_table, .int x_ways_length, .int x_ways_full, .int x_ways_pairs, .int x_ways_codes])), (h_x_ways_stock, .inl (cI, 16, .inl x_ways_stock)), (h_x_ways_weight, .inl (cI, 16, .inl x_ways_weight)), (h_x_ways_known, .inl (cI, 577, .inl x_ways_known)), (h_x_ways_found, .inl (cI, 6347, .inl x_ways_found)), (h_x_measured, .inr (0, [.int x_measured_which, .int x_measured_x, .int x_measured_y, .int x_measured_row, .int x_measured_table])), (h_x_pairCounts, .inl (cI, 16, .inl res.2))])) [(h_x, .inr (5, [.ref h_x_now, .ref h_past, .int x_pastStates, .ref h_x_text, .ref h_x_trial, .ref h_x_ways, .ref h_x_measured, .ref h_x_pairCounts])), (h_x_now, .inr (1, [.int x_now_row, .int x_now_table, .int x_now_kept, .ref h_x_now_book])), (h_x_now_book, .inl (cI, 8, .inl x_now_book)), (h_x_text, .inr (2, [.ref h_x_text_signs, .int x_text_length, .int x_text_word, .int x_text_kind, .int x_text_number, .int x_text_row, .int x_text_reached, .int x_text_broken])), (h_x_text_signs, .inl (cI, 60, .inl x_text_signs)), (h_x_trial, .inr (3, [.ref h_x_trial_state, .int x_trial_orders, .int x_trial_position, .int x_trial_reason, .int x_trial_cause])), (h_x_trial_state, .inr (1, [.int x_trial_state_row, .int x_trial_state_table, .int x_trial_state_kept, .ref h_x_trial_state_book])), (h_x_trial_state_book, .inl (cI, 8, .inl x_trial_state_book)), (h_x_ways, .inr (4, [.ref h_x_ways_stock, .ref h_x_ways_weight, .ref h_x_ways_known, .ref h_x_ways_found, nv x_ways_measure h_x_measured, .int x_ways_values, .int x_ways_row, .int x_ways_rowCodes, .int x_ways_table, .int x_ways_length, .int x_ways_full, .int x_ways_pairs, .int x_ways_codes])), (h_x_ways_stock, .inl (cI, 16, .inl x_ways_stock)), (h_x_ways_weight, .inl (cI, 16, .inl x_ways_weight)), (h_x_ways_known, .inl (cI, 577, .inl x_ways_known)), (h_x_ways_found, .inl (cI, 6347, .inl x_ways_found)), (h_x_measured, .inr (0, [.int x_measured_which, .int x_measured_x, .int x_measured_y, .int x_measured_row, .int x_measured_table])), (h_x_pairCounts, .inl (cI, 16, .inl e7))] [(0, .ref h_x), (2, .int a2), (3, .int ax26)] 85 [] := by
          intro ax26 he
          subst he
          simp only [Sum.elim_inl, Sum.elim_inr] at h
          refine G_iload_n hc dX5_pairAt_85 rfl ?_
          obtain ⟨t34, hr36, h⟩ := ob h
          have hj35 : G p l e (rmk 3) s m [.ref h_x, .int a1, .int a2].toArray below meth c D A 4 0 0 (QI below [.ref h_x, .int a1, .int a2].toArray s D A (PoI res.1 [(h_x, .inr (5, [.ref h_x_now, .ref h_past, .int x_pastStates, .ref h_x_text, .ref h_x_trial, .ref h_x_ways, .ref h_x_measured, .ref h_x_pairCounts])), (h_x_now, .inr (1, [.int x_now_row, .int x_now_table, .int x_now_kept, .ref h_x_now_book])), (h_x_now_book, .inl (cI, 8, .inl x_now_book)), (h_x_text, .inr (2, [.ref h_x_text_signs, .int x_text_length, .int x_text_word, .int x_text_kind, .int x_text_number, .int x_text_row, .int x_text_reached, .int x_text_broken])), (h_x_text_signs, .inl (cI, 60, .inl x_text_signs)), (h_x_trial, .inr (3, [.ref h_x_trial_state, .int x_trial_orders, .int x_trial_position, .int x_trial_reason, .int x_trial_cause])), (h_x_trial_state, .inr (1, [.int x_trial_state_row, .int x_trial_state_table, .int x_trial_state_kept, .ref h_x_trial_state_book])), (h_x_trial_state_book, .inl (cI, 8, .inl x_trial_state_book)), (h_x_ways, .inr (4, [.ref h_x_ways_stock, .ref h_x_ways_weight, .ref h_x_ways_known, .ref h_x_ways_found, nv x_ways_measure h_x_measured, .int x_ways_values, .int x_ways_row, .int x_ways_rowCodes, .int x_ways_table, .int x_ways_length, .int x_ways_full, .int x_ways_pairs, .int x_ways_codes])), (h_x_ways_stock, .inl (cI, 16, .inl x_ways_stock)), (h_x_ways_weight, .inl (cI, 16, .inl x_ways_weight)), (h_x_ways_known, .inl (cI, 577, .inl x_ways_known)), (h_x_ways_found, .inl (cI, 6347, .inl x_ways_found)), (h_x_measured, .inr (0, [.int x_measured_which, .int x_measured_x, .int x_measured_y, .int x_measured_row, .int x_measured_table])), (h_x_pairCounts, .inl (cI, 16, .inl res.2))])) [(h_x, .inr (5, [.ref h_x_now, .ref h_past, .int x_pastStates, .ref h_x_text, .ref h_x_trial, .ref h_x_ways, .ref h_x_measured, .ref h_x_pairCounts])), (h_x_now, .inr (1, [.int x_now_row, .int x_now_table, .int x_now_kept, .ref h_x_now_book])), (h_x_now_book, .inl (cI, 8, .inl x_now_book)), (h_x_text, .inr (2, [.ref h_x_text_signs, .int x_text_length, .int x_text_word, .int x_text_kind, .int x_text_number, .int x_text_row, .int x_text_reached, .int x_text_broken])), (h_x_text_signs, .inl (cI, 60, .inl x_text_signs)), (h_x_trial, .inr (3, [.ref h_x_trial_state, .int x_trial_orders, .int x_trial_position, .int x_trial_reason, .int x_trial_cause])), (h_x_trial_state, .inr (1, [.int x_trial_state_row, .int x_trial_state_table, .int x_trial_state_kept, .ref h_x_trial_state_book])), (h_x_trial_state_book, .inl (cI, 8, .inl x_trial_state_book)), (h_x_ways, .inr (4, [.ref h_x_ways_stock, .ref h_x_ways_weight, .ref h_x_ways_known, .ref h_x_ways_found, nv x_ways_measure h_x_measured, .int x_ways_values, .int x_ways_row, .int x_ways_rowCodes, .int x_ways_table, .int x_ways_length, .int x_ways_full, .int x_ways_pairs, .int x_ways_codes])), (h_x_ways_stock, .inl (cI, 16, .inl x_ways_stock)), (h_x_ways_weight, .inl (cI, 16, .inl x_ways_weight)), (h_x_ways_known, .inl (cI, 577, .inl x_ways_known)), (h_x_ways_found, .inl (cI, 6347, .inl x_ways_found)), (h_x_measured, .inr (0, [.int x_measured_which, .int x_measured_x, .int x_measured_y, .int x_measured_row, .int x_measured_table])), (h_x_pairCounts, .inl (cI, 16, .inl e7))] [] 99 [.int t34] := by
            have h := Option.some.inj h
            subst h
            exact G_ireturn hc ⟨rfl, rfl⟩ dX5_pairAt_99
          clear h
          have h := hr36
          clear hr36
          refine G_if_ne (tgt := 93) hc dX5_pairAt_86 (by decide) (fun c38 => ?_) (fun c38 => ?_)
          · have h := inn h c38
            refine G_aload_n hc dX5_pairAt_93 rfl ?_
            refine G_get hc f_X5_48 0 rfl rfl dX5_pairAt_94 ?_
            refine G_iload_n hc dX5_pairAt_97 rfl ?_
            obtain ⟨v37, i_v37, e_v37, h⟩ := rb h
            refine G_iald hc 14 rfl i_v37 e_v37 dX5_pairAt_98 ?_
            have h := Option.some.inj h
            subst h
            refine G_lv (lv' := []) lsame_nil ?_
            exact hj35
          · have h := ip h c38
            refine G_iload_n hc dX5_pairAt_89 rfl ?_
            refine G_goto (tgt := 99) hc dX5_pairAt_90 (by decide) ?_
            have h := Option.some.inj h
            subst h
            refine G_lv (lv' := []) lsame_nil ?_
            exact hj35
        have hK25 : ∀ ax27, e19 = (Sum.inr ax27) → G p l e (rmk 3) s m [.ref h_x, .int a1, .int a2].toArray below meth c D A 4 0 0 (QI below [.ref h_x, .int a1, .int a2].toArray s D A (PoI res.1 [(h_x, .inr (5, [.ref h_x_now, .ref h_past, .int x_pastStates, .ref h_x_text, .ref h_x_trial, .ref h_x_ways, .ref h_x_measured, .ref h_x_pairCounts])), (h_x_now, .inr (1, [.int x_now_row, .int x_now_table, .int x_now_kept, .ref h_x_now_book])), (h_x_now_book, .inl (cI, 8, .inl x_now_book)), (h_x_text, .inr (2, [.ref h_x_text_signs, .int x_text_length, .int x_text_word, .int x_text_kind, .int x_text_number, .int x_text_row, .int x_text_reached, .int x_text_broken])), (h_x_text_signs, .inl (cI, 60, .inl x_text_signs)), (h_x_trial, .inr (3, [.ref h_x_trial_state, .int x_trial_orders, .int x_trial_position, .int x_trial_reason, .int x_trial_cause])), (h_x_trial_state, .inr (1, [.int x_trial_state_row, .int x_trial_state_table, .int x_trial_state_kept, .ref h_x_trial_state_book])), (h_x_trial_state_book, .inl (cI, 8, .inl x_trial_state_book)), (h_x_ways, .inr (4, [.ref h_x_ways_stock, .ref h_x_ways_weight, .ref h_x_ways_known, .ref h_x_ways_found, nv x_ways_measure h_x_measured, .int x_ways_values, .int x_ways_row, .int x_ways_rowCodes, .int x_ways_table, .int x_ways_length, .int x_ways_full, .int x_ways_pairs, .int x_ways_codes])), (h_x_ways_stock, .inl (cI, 16, .inl x_ways_stock)), (h_x_ways_weight, .inl (cI, 16, .inl x_ways_weight)), (h_x_ways_known, .inl (cI, 577, .inl x_ways_known)), (h_x_ways_found, .inl (cI, 6347, .inl x_ways_found)), (h_x_measured, .inr (0, [.int x_measured_which, .int x_measured_x, .int x_measured_y, .int x_measured_row, .int x_measured_table])), (h_x_pairCounts, .inl (cI, 16, .inl res.2))])) [(h_x, .inr (5, [.ref h_x_now, .ref h_past, .int x_pastStates, .ref h_x_text, .ref h_x_trial, .ref h_x_ways, .ref h_x_measured, .ref h_x_pairCounts])), (h_x_now, .inr (1, [.int x_now_row, .int x_now_table, .int x_now_kept, .ref h_x_now_book])), (h_x_now_book, .inl (cI, 8, .inl x_now_book)), (h_x_text, .inr (2, [.ref h_x_text_signs, .int x_text_length, .int x_text_word, .int x_text_kind, .int x_text_number, .int x_text_row, .int x_text_reached, .int x_text_broken])), (h_x_text_signs, .inl (cI, 60, .inl x_text_signs)), (h_x_trial, .inr (3, [.ref h_x_trial_state, .int x_trial_orders, .int x_trial_position, .int x_trial_reason, .int x_trial_cause])), (h_x_trial_state, .inr (1, [.int x_trial_state_row, .int x_trial_state_table, .int x_trial_state_kept, .ref h_x_trial_state_book])), (h_x_trial_state_book, .inl (cI, 8, .inl x_trial_state_book)), (h_x_ways, .inr (4, [.ref h_x_ways_stock, .ref h_x_ways_weight, .ref h_x_ways_known, .ref h_x_ways_found, nv x_ways_measure h_x_measured, .int x_ways_values, .int x_ways_row, .int x_ways_rowCodes, .int x_ways_table, .int x_ways_length, .int x_ways_full, .int x_ways_pairs, .int x_ways_codes])), (h_x_ways_stock, .inl (cI, 16, .inl x_ways_stock)), (h_x_ways_weight, .inl (cI, 16, .inl x_ways_weight)), (h_x_ways_known, .inl (cI, 577, .inl x_ways_known)), (h_x_ways_found, .inl (cI, 6347, .inl x_ways_found)), (h_x_measured, .inr (0, [.int x_measured_which, .int x_measured_x, .int x_measured_y, .int x_measured_row, .int x_measured_table])), (h_x_pairCounts, .inl (cI, 16, .inl e7))] [] 106 [] := by
          intro ax27 he
          subst he
          simp only [Sum.elim_inl, Sum.elim_inr] at h
          refine G_ldc (v := -1000004) hc k_X5_91 dX5_pairAt_106 ?_
          have h := Option.some.inj h
          subst h
          exact G_ireturn hc ⟨rfl, rfl⟩ dX5_pairAt_108
        clear h
        have hL21 : ∀ (n22 : Nat) (u18 : Int32), f_X5_pairAt_L61 F a1 e7 n22 u18 = some e19 → G p l e (rmk 3) s m [.ref h_x, .int a1, .int a2].toArray below meth c D A 4 0 0 (QI below [.ref h_x, .int a1, .int a2].toArray s D A (PoI res.1 [(h_x, .inr (5, [.ref h_x_now, .ref h_past, .int x_pastStates, .ref h_x_text, .ref h_x_trial, .ref h_x_ways, .ref h_x_measured, .ref h_x_pairCounts])), (h_x_now, .inr (1, [.int x_now_row, .int x_now_table, .int x_now_kept, .ref h_x_now_book])), (h_x_now_book, .inl (cI, 8, .inl x_now_book)), (h_x_text, .inr (2, [.ref h_x_text_signs, .int x_text_length, .int x_text_word, .int x_text_kind, .int x_text_number, .int x_text_row, .int x_text_reached, .int x_text_broken])), (h_x_text_signs, .inl (cI, 60, .inl x_text_signs)), (h_x_trial, .inr (3, [.ref h_x_trial_state, .int x_trial_orders, .int x_trial_position, .int x_trial_reason, .int x_trial_cause])), (h_x_trial_state, .inr (1, [.int x_trial_state_row, .int x_trial_state_table, .int x_trial_state_kept, .ref h_x_trial_state_book])), (h_x_trial_state_book, .inl (cI, 8, .inl x_trial_state_book)), (h_x_ways, .inr (4, [.ref h_x_ways_stock, .ref h_x_ways_weight, .ref h_x_ways_known, .ref h_x_ways_found, nv x_ways_measure h_x_measured, .int x_ways_values, .int x_ways_row, .int x_ways_rowCodes, .int x_ways_table, .int x_ways_length, .int x_ways_full, .int x_ways_pairs, .int x_ways_codes])), (h_x_ways_stock, .inl (cI, 16, .inl x_ways_stock)), (h_x_ways_weight, .inl (cI, 16, .inl x_ways_weight)), (h_x_ways_known, .inl (cI, 577, .inl x_ways_known)), (h_x_ways_found, .inl (cI, 6347, .inl x_ways_found)), (h_x_measured, .inr (0, [.int x_measured_which, .int x_measured_x, .int x_measured_y, .int x_measured_row, .int x_measured_table])), (h_x_pairCounts, .inl (cI, 16, .inl res.2))])) [(h_x, .inr (5, [.ref h_x_now, .ref h_past, .int x_pastStates, .ref h_x_text, .ref h_x_trial, .ref h_x_ways, .ref h_x_measured, .ref h_x_pairCounts])), (h_x_now, .inr (1, [.int x_now_row, .int x_now_table, .int x_now_kept, .ref h_x_now_book])), (h_x_now_book, .inl (cI, 8, .inl x_now_book)), (h_x_text, .inr (2, [.ref h_x_text_signs, .int x_text_length, .int x_text_word, .int x_text_kind, .int x_text_number, .int x_text_row, .int x_text_reached, .int x_text_broken])), (h_x_text_signs, .inl (cI, 60, .inl x_text_signs)), (h_x_trial, .inr (3, [.ref h_x_trial_state, .int x_trial_orders, .int x_trial_position, .int x_trial_reason, .int x_trial_cause])), (h_x_trial_state, .inr (1, [.int x_trial_state_row, .int x_trial_state_table, .int x_trial_state_kept, .ref h_x_trial_state_book])), (h_x_trial_state_book, .inl (cI, 8, .inl x_trial_state_book)), (h_x_ways, .inr (4, [.ref h_x_ways_stock, .ref h_x_ways_weight, .ref h_x_ways_known, .ref h_x_ways_found, nv x_ways_measure h_x_measured, .int x_ways_values, .int x_ways_row, .int x_ways_rowCodes, .int x_ways_table, .int x_ways_length, .int x_ways_full, .int x_ways_pairs, .int x_ways_codes])), (h_x_ways_stock, .inl (cI, 16, .inl x_ways_stock)), (h_x_ways_weight, .inl (cI, 16, .inl x_ways_weight)), (h_x_ways_known, .inl (cI, 577, .inl x_ways_known)), (h_x_ways_found, .inl (cI, 6347, .inl x_ways_found)), (h_x_measured, .inr (0, [.int x_measured_which, .int x_measured_x, .int x_measured_y, .int x_measured_row, .int x_measured_table])), (h_x_pairCounts, .inl (cI, 16, .inl e7))] [(0, .ref h_x), (1, .int a1), (2, .int a2), (3, .int u18)] 61 [] := by
          intro n22
          induction n22 with
          | zero =>
            intro u18 h
            exact nz h
          | succ n22 ih23 =>
            intro u18 h
            rw [f_X5_pairAt_L61] at h
            refine G_iload_n hc dX5_pairAt_61 rfl ?_
            refine G_aload_n hc dX5_pairAt_62 rfl ?_
            refine G_get hc f_X5_48 0 rfl rfl dX5_pairAt_63 ?_
            refine G_alen (v := 16) hc 14 rfl (by decide) dX5_pairAt_66 ?_
            refine G_icmp_ge (tgt := 106) hc dX5_pairAt_67 (by decide) (fun c33 => ?_) (fun c33 => ?_)
            · have h := ip h c33
              have h := Option.some.inj h
              subst h
              refine G_lv (lv' := []) lsame_nil ?_
              exact hK25 _ rfl
            · have h := inn h c33
              refine G_aload_n hc dX5_pairAt_70 rfl ?_
              refine G_iload_n hc dX5_pairAt_71 rfl ?_
              refine G_aload_n hc dX5_pairAt_72 rfl ?_
              refine G_get hc f_X5_48 0 rfl rfl dX5_pairAt_73 ?_
              refine G_iload_n hc dX5_pairAt_76 rfl ?_
              obtain ⟨v28, i_v28, e_v28, h⟩ := rb h
              refine G_iald hc 14 rfl i_v28 e_v28 dX5_pairAt_77 ?_
              obtain ⟨z29, hu30, h⟩ := ob h
              refine G_callVI (ws2 := [(h_x, .inr (5, [.ref h_x_now, .ref h_past, .int x_pastStates, .ref h_x_text, .ref h_x_trial, .ref h_x_ways, .ref h_x_measured, .ref h_x_pairCounts])), (h_x_now, .inr (1, [.int x_now_row, .int x_now_table, .int x_now_kept, .ref h_x_now_book])), (h_x_now_book, .inl (cI, 8, .inl x_now_book)), (h_x_text, .inr (2, [.ref h_x_text_signs, .int x_text_length, .int x_text_word, .int x_text_kind, .int x_text_number, .int x_text_row, .int x_text_reached, .int x_text_broken])), (h_x_text_signs, .inl (cI, 60, .inl x_text_signs)), (h_x_trial, .inr (3, [.ref h_x_trial_state, .int x_trial_orders, .int x_trial_position, .int x_trial_reason, .int x_trial_cause])), (h_x_trial_state, .inr (1, [.int x_trial_state_row, .int x_trial_state_table, .int x_trial_state_kept, .ref h_x_trial_state_book])), (h_x_trial_state_book, .inl (cI, 8, .inl x_trial_state_book)), (h_x_ways, .inr (4, [.ref h_x_ways_stock, .ref h_x_ways_weight, .ref h_x_ways_known, .ref h_x_ways_found, nv x_ways_measure h_x_measured, .int x_ways_values, .int x_ways_row, .int x_ways_rowCodes, .int x_ways_table, .int x_ways_length, .int x_ways_full, .int x_ways_pairs, .int x_ways_codes])), (h_x_ways_stock, .inl (cI, 16, .inl x_ways_stock)), (h_x_ways_weight, .inl (cI, 16, .inl x_ways_weight)), (h_x_ways_known, .inl (cI, 577, .inl x_ways_known)), (h_x_ways_found, .inl (cI, 6347, .inl x_ways_found)), (h_x_measured, .inr (0, [.int x_measured_which, .int x_measured_x, .int x_measured_y, .int x_measured_row, .int x_measured_table])), (h_x_pairCounts, .inl (cI, 16, .inl e7))]) hc m_X5_95 (c_X5_pairsAheadOf l D cI cS X F h_x h_x_now h_x_now_book h_x_text h_x_text_signs h_x_trial h_x_trial_state h_x_trial_state_book h_x_ways h_x_ways_stock h_x_ways_weight h_x_ways_known h_x_ways_found h_x_measured h_x_pairCounts h_past x_pastStates x_now_row x_now_table x_now_kept x_now_book x_text_length x_text_word x_text_kind x_text_number x_text_row x_text_reached x_text_broken x_text_signs x_trial_orders x_trial_position x_trial_reason x_trial_cause x_trial_state_row x_trial_state_table x_trial_state_kept x_trial_state_book x_ways_measure x_ways_values x_ways_row x_ways_rowCodes x_ways_table x_ways_length x_ways_full x_ways_pairs x_ways_codes x_ways_stock x_ways_weight x_ways_known x_ways_found x_measured_which x_measured_x x_measured_y x_measured_row x_measured_table e7 u18 v28 hu30) 0 [0, 1, 2, 3, 4, 5, 6, 7, 8, 9, 10, 11, 12, 13, 14] rfl rfl (rmok_of (Nat.le_of_ble_eq_true rfl)) ⟨Nat.zero_le _, Nat.zero_le _⟩ rfl rfl rfl rfl rfl ⟨rfl, rfl, rfl⟩ dX5_pairAt_78 ?_
              refine G_iload_n hc dX5_pairAt_81 rfl ?_
              refine G_icmp_ne (tgt := 100) hc dX5_pairAt_82 (by decide) (fun c32 => ?_) (fun c32 => ?_)
              · have h := inn h c32
                obtain ⟨v31, e_v31, h⟩ := sb h
                refine G_iinc (v := v31) (lv' := [(0, .ref h_x), (1, .int a1), (2, .int a2), (3, .int v31)]) hc dX5_pairAt_100 rfl (e_v31.trans rfl) rfl rfl ?_
                refine G_goto (tgt := 61) hc dX5_pairAt_103 (by decide) ?_
                refine G_lv (lv' := [(0, .ref h_x), (1, .int a1), (2, .int a2), (3, .int v31)]) (lsame_cons rfl (lsame_cons rfl (lsame_cons rfl (lsame_cons rfl lsame_nil)))) ?_
                exact ih23 _ h
              · have h := ip h c32
                have h := Option.some.inj h
                subst h
                refine G_lv (lv' := [(0, .ref h_x), (2, .int a2), (3, .int u18)]) (lsame_cons rfl (lsame_cons rfl (lsame_cons rfl lsame_nil))) ?_
                exact hK24 _ rfl
        refine G_lv (lv' := [(0, .ref h_x), (1, .int a1), (2, .int a2), (3, .int (0 : Int32))]) (lsame_cons rfl (lsame_cons rfl (lsame_cons rfl (lsame_cons rfl lsame_nil)))) ?_
        exact hL21 F _ hl20
      clear h
      have hL9 : ∀ (n10 : Nat) (u5 : Int32) (u6 : Nat → Int32), f_X5_pairAt_L22 F x_now_row n10 u5 u6 = some e7 → G p l e (rmk 3) s m [.ref h_x, .int a1, .int a2].toArray below meth c D A 4 0 0 (QI below [.ref h_x, .int a1, .int a2].toArray s D A (PoI res.1 [(h_x, .inr (5, [.ref h_x_now, .ref h_past, .int x_pastStates, .ref h_x_text, .ref h_x_trial, .ref h_x_ways, .ref h_x_measured, .ref h_x_pairCounts])), (h_x_now, .inr (1, [.int x_now_row, .int x_now_table, .int x_now_kept, .ref h_x_now_book])), (h_x_now_book, .inl (cI, 8, .inl x_now_book)), (h_x_text, .inr (2, [.ref h_x_text_signs, .int x_text_length, .int x_text_word, .int x_text_kind, .int x_text_number, .int x_text_row, .int x_text_reached, .int x_text_broken])), (h_x_text_signs, .inl (cI, 60, .inl x_text_signs)), (h_x_trial, .inr (3, [.ref h_x_trial_state, .int x_trial_orders, .int x_trial_position, .int x_trial_reason, .int x_trial_cause])), (h_x_trial_state, .inr (1, [.int x_trial_state_row, .int x_trial_state_table, .int x_trial_state_kept, .ref h_x_trial_state_book])), (h_x_trial_state_book, .inl (cI, 8, .inl x_trial_state_book)), (h_x_ways, .inr (4, [.ref h_x_ways_stock, .ref h_x_ways_weight, .ref h_x_ways_known, .ref h_x_ways_found, nv x_ways_measure h_x_measured, .int x_ways_values, .int x_ways_row, .int x_ways_rowCodes, .int x_ways_table, .int x_ways_length, .int x_ways_full, .int x_ways_pairs, .int x_ways_codes])), (h_x_ways_stock, .inl (cI, 16, .inl x_ways_stock)), (h_x_ways_weight, .inl (cI, 16, .inl x_ways_weight)), (h_x_ways_known, .inl (cI, 577, .inl x_ways_known)), (h_x_ways_found, .inl (cI, 6347, .inl x_ways_found)), (h_x_measured, .inr (0, [.int x_measured_which, .int x_measured_x, .int x_measured_y, .int x_measured_row, .int x_measured_table])), (h_x_pairCounts, .inl (cI, 16, .inl res.2))])) [(h_x, .inr (5, [.ref h_x_now, .ref h_past, .int x_pastStates, .ref h_x_text, .ref h_x_trial, .ref h_x_ways, .ref h_x_measured, .ref h_x_pairCounts])), (h_x_now, .inr (1, [.int x_now_row, .int x_now_table, .int x_now_kept, .ref h_x_now_book])), (h_x_now_book, .inl (cI, 8, .inl x_now_book)), (h_x_text, .inr (2, [.ref h_x_text_signs, .int x_text_length, .int x_text_word, .int x_text_kind, .int x_text_number, .int x_text_row, .int x_text_reached, .int x_text_broken])), (h_x_text_signs, .inl (cI, 60, .inl x_text_signs)), (h_x_trial, .inr (3, [.ref h_x_trial_state, .int x_trial_orders, .int x_trial_position, .int x_trial_reason, .int x_trial_cause])), (h_x_trial_state, .inr (1, [.int x_trial_state_row, .int x_trial_state_table, .int x_trial_state_kept, .ref h_x_trial_state_book])), (h_x_trial_state_book, .inl (cI, 8, .inl x_trial_state_book)), (h_x_ways, .inr (4, [.ref h_x_ways_stock, .ref h_x_ways_weight, .ref h_x_ways_known, .ref h_x_ways_found, nv x_ways_measure h_x_measured, .int x_ways_values, .int x_ways_row, .int x_ways_rowCodes, .int x_ways_table, .int x_ways_length, .int x_ways_full, .int x_ways_pairs, .int x_ways_codes])), (h_x_ways_stock, .inl (cI, 16, .inl x_ways_stock)), (h_x_ways_weight, .inl (cI, 16, .inl x_ways_weight)), (h_x_ways_known, .inl (cI, 577, .inl x_ways_known)), (h_x_ways_found, .inl (cI, 6347, .inl x_ways_found)), (h_x_measured, .inr (0, [.int x_measured_which, .int x_measured_x, .int x_measured_y, .int x_measured_row, .int x_measured_table])), (h_x_pairCounts, .inl (cI, 16, .inl u6))] [(0, .ref h_x), (1, .int a1), (2, .int a2), (3, .int u5)] 22 [] := by
        intro n10
        induction n10 with
        | zero =>
          intro u5 u6 h
          exact nz h
        | succ n10 ih11 =>
          intro u5 u6 h
          rw [f_X5_pairAt_L22] at h
          refine G_iload_n hc dX5_pairAt_22 rfl ?_
          refine G_aload_n hc dX5_pairAt_23 rfl ?_
          refine G_get hc f_X5_48 0 rfl rfl dX5_pairAt_24 ?_
          refine G_alen (v := 16) hc 14 rfl (by decide) dX5_pairAt_27 ?_
          refine G_icmp_ge (tgt := 59) hc dX5_pairAt_28 (by decide) (fun c17 => ?_) (fun c17 => ?_)
          · have h := ip h c17
            have h := Option.some.inj h
            subst h
            refine G_lv (lv' := [(0, .ref h_x), (1, .int a1), (2, .int a2)]) (lsame_cons rfl (lsame_cons rfl (lsame_cons rfl lsame_nil))) ?_
            exact hK12
          · have h := inn h c17
            refine G_aload_n hc dX5_pairAt_31 rfl ?_
            refine G_get hc f_X5_48 0 rfl rfl dX5_pairAt_32 ?_
            refine G_iload_n hc dX5_pairAt_35 rfl ?_
            refine G_aload_n hc dX5_pairAt_36 rfl ?_
            refine G_get hc f_X5_10 0 rfl rfl dX5_pairAt_37 ?_
            refine G_get hc f_X5_57 1 rfl rfl dX5_pairAt_40 ?_
            refine G_iload_n hc dX5_pairAt_43 rfl ?_
            refine G_iconst (v := 4) hc dX5_pairAt_44 (by decide) ?_
            refine G_idiv hc dX5_pairAt_45 (by decide) ?_
            refine G_iload_n hc dX5_pairAt_46 rfl ?_
            refine G_iconst (v := 4) hc dX5_pairAt_47 (by decide) ?_
            refine G_irem hc dX5_pairAt_48 (by decide) ?_
            obtain ⟨z13, hu14, h⟩ := ob h
            refine G_callSI (ws2 := [(h_x, .inr (5, [.ref h_x_now, .ref h_past, .int x_pastStates, .ref h_x_text, .ref h_x_trial, .ref h_x_ways, .ref h_x_measured, .ref h_x_pairCounts])), (h_x_now, .inr (1, [.int x_now_row, .int x_now_table, .int x_now_kept, .ref h_x_now_book])), (h_x_now_book, .inl (cI, 8, .inl x_now_book)), (h_x_text, .inr (2, [.ref h_x_text_signs, .int x_text_length, .int x_text_word, .int x_text_kind, .int x_text_number, .int x_text_row, .int x_text_reached, .int x_text_broken])), (h_x_text_signs, .inl (cI, 60, .inl x_text_signs)), (h_x_trial, .inr (3, [.ref h_x_trial_state, .int x_trial_orders, .int x_trial_position, .int x_trial_reason, .int x_trial_cause])), (h_x_trial_state, .inr (1, [.int x_trial_state_row, .int x_trial_state_table, .int x_trial_state_kept, .ref h_x_trial_state_book])), (h_x_trial_state_book, .inl (cI, 8, .inl x_trial_state_book)), (h_x_ways, .inr (4, [.ref h_x_ways_stock, .ref h_x_ways_weight, .ref h_x_ways_known, .ref h_x_ways_found, nv x_ways_measure h_x_measured, .int x_ways_values, .int x_ways_row, .int x_ways_rowCodes, .int x_ways_table, .int x_ways_length, .int x_ways_full, .int x_ways_pairs, .int x_ways_codes])), (h_x_ways_stock, .inl (cI, 16, .inl x_ways_stock)), (h_x_ways_weight, .inl (cI, 16, .inl x_ways_weight)), (h_x_ways_known, .inl (cI, 577, .inl x_ways_known)), (h_x_ways_found, .inl (cI, 6347, .inl x_ways_found)), (h_x_measured, .inr (0, [.int x_measured_which, .int x_measured_x, .int x_measured_y, .int x_measured_row, .int x_measured_table])), (h_x_pairCounts, .inl (cI, 16, .inl u6))]) hc m_X5_92 (c_X5_pairsIn l D cI cS X F x_now_row (u5 / (4 : Int32)) (irem u5 (4 : Int32)) hu14) [] (rmok_of (Nat.le_of_ble_eq_true rfl)) ⟨Nat.zero_le _, Nat.zero_le _⟩ rfl rfl rfl rfl rfl ⟨rfl, rfl, rfl⟩ dX5_pairAt_49 ?_
            obtain ⟨v15, i_v15, e_v15, h⟩ := wb h
            refine G_iast (ws' := [(h_x, .inr (5, [.ref h_x_now, .ref h_past, .int x_pastStates, .ref h_x_text, .ref h_x_trial, .ref h_x_ways, .ref h_x_measured, .ref h_x_pairCounts])), (h_x_now, .inr (1, [.int x_now_row, .int x_now_table, .int x_now_kept, .ref h_x_now_book])), (h_x_now_book, .inl (cI, 8, .inl x_now_book)), (h_x_text, .inr (2, [.ref h_x_text_signs, .int x_text_length, .int x_text_word, .int x_text_kind, .int x_text_number, .int x_text_row, .int x_text_reached, .int x_text_broken])), (h_x_text_signs, .inl (cI, 60, .inl x_text_signs)), (h_x_trial, .inr (3, [.ref h_x_trial_state, .int x_trial_orders, .int x_trial_position, .int x_trial_reason, .int x_trial_cause])), (h_x_trial_state, .inr (1, [.int x_trial_state_row, .int x_trial_state_table, .int x_trial_state_kept, .ref h_x_trial_state_book])), (h_x_trial_state_book, .inl (cI, 8, .inl x_trial_state_book)), (h_x_ways, .inr (4, [.ref h_x_ways_stock, .ref h_x_ways_weight, .ref h_x_ways_known, .ref h_x_ways_found, nv x_ways_measure h_x_measured, .int x_ways_values, .int x_ways_row, .int x_ways_rowCodes, .int x_ways_table, .int x_ways_length, .int x_ways_full, .int x_ways_pairs, .int x_ways_codes])), (h_x_ways_stock, .inl (cI, 16, .inl x_ways_stock)), (h_x_ways_weight, .inl (cI, 16, .inl x_ways_weight)), (h_x_ways_known, .inl (cI, 577, .inl x_ways_known)), (h_x_ways_found, .inl (cI, 6347, .inl x_ways_found)), (h_x_measured, .inr (0, [.int x_measured_which, .int x_measured_x, .int x_measured_y, .int x_measured_row, .int x_measured_table])), (h_x_pairCounts, .inl (cI, 16, .inl v15))]) hc 14 rfl i_v15 e_v15 rfl dX5_pairAt_52 ?_
            obtain ⟨v16, e_v16, h⟩ := sb h
            refine G_iinc (v := v16) (lv' := [(0, .ref h_x), (1, .int a1), (2, .int a2), (3, .int v16)]) hc dX5_pairAt_53 rfl (e_v16.trans rfl) rfl rfl ?_
            refine G_goto (tgt := 22) hc dX5_pairAt_56 (by decide) ?_
            refine G_lv (lv' := [(0, .ref h_x), (1, .int a1), (2, .int a2), (3, .int v16)]) (lsame_cons rfl (lsame_cons rfl (lsame_cons rfl (lsame_cons rfl lsame_nil)))) ?_
            exact ih11 _ _ h
      refine G_lv (lv' := [(0, .ref h_x), (1, .int a1), (2, .int a2), (3, .int (0 : Int32))]) (lsame_cons rfl (lsame_cons rfl (lsame_cons rfl (lsame_cons rfl lsame_nil)))) ?_
      exact hL9 F _ _ hl8
    · have h := ip h c39
      refine G_ldc (v := -1000001) hc k_X5_56 dX5_pairAt_17 ?_
      have h := Option.some.inj h
      subst h
      exact G_ireturn hc ⟨rfl, rfl⟩ dX5_pairAt_19
set_option maxHeartbeats 4000000 in
set_option maxRecDepth 100000 in
theorem c_X5_lettersIn (l : Launch) (D : va_G) (cI cS : ClassId) (X : XP) (F : Nat) (a0 : Int32) (a1 : Int32) {res : Int32} (h : f_X5_lettersIn F a0 a1 = some res) : CtI l D cI cS X yX5_lettersIn cX5_lettersIn 4 (some .int) 2 [.int a0, .int a1] [] (PoI res []) := by
  refine CtI.of (by decide +kernel) rfl ?_
  intro p e s m below meth c A hc
  refine G_lv (lv' := [(0, .int a0), (1, .int a1)]) (lsame_cons rfl (lsame_cons rfl lsame_nil)) ?_
  unfold f_X5_lettersIn at h
  refine G_iconst (v := 0) hc dX5_lettersIn_0 (by decide) ?_
  refine G_istore_n (lv' := [(0, .int a0), (1, .int a1), (2, .int (0 : Int32))]) hc dX5_lettersIn_1 rfl rfl ?_
  refine G_iconst (v := 0) hc dX5_lettersIn_2 (by decide) ?_
  refine G_istore_n (lv' := [(0, .int a0), (1, .int a1), (2, .int (0 : Int32)), (3, .int (0 : Int32))]) hc dX5_lettersIn_3 rfl rfl ?_
  obtain ⟨e3, hl4, h⟩ := ob h
  have hK8 : G p l e (rmk 2) s m [.int a0, .int a1].toArray below meth c D A 4 0 0 (QI below [.int a0, .int a1].toArray s D A (PoI res [])) [] [(2, .int e3)] 30 [] := by
    refine G_iload_n hc dX5_lettersIn_30 rfl ?_
    have h := Option.some.inj h
    subst h
    exact G_ireturn hc ⟨rfl, rfl⟩ dX5_lettersIn_31
  clear h
  have hL5 : ∀ (n6 : Nat) (u1 : Int32) (u2 : Int32), f_X5_lettersIn_L4 F a0 a1 n6 u1 u2 = some e3 → G p l e (rmk 2) s m [.int a0, .int a1].toArray below meth c D A 4 0 0 (QI below [.int a0, .int a1].toArray s D A (PoI res [])) [] [(0, .int a0), (1, .int a1), (2, .int u1), (3, .int u2)] 4 [] := by
    intro n6
    induction n6 with
    | zero =>
      intro u1 u2 h
      exact nz h
    | succ n6 ih7 =>
      intro u1 u2 h
      rw [f_X5_lettersIn_L4] at h
      refine G_iload_n hc dX5_lettersIn_4 rfl ?_
      refine G_iload_n hc dX5_lettersIn_5 rfl ?_
      obtain ⟨z9, hu10, h⟩ := ob h
      refine G_callSI (ws2 := []) hc m_X5_61 (c_X5_lengthOf l D cI cS X F a0 hu10) [] (rmok_of (Nat.le_of_ble_eq_true rfl)) ⟨Nat.zero_le _, Nat.zero_le _⟩ rfl rfl rfl rfl rfl ⟨rfl, rfl, rfl⟩ dX5_lettersIn_6 ?_
      refine G_icmp_ge (tgt := 30) hc dX5_lettersIn_9 (by decide) (fun c19 => ?_) (fun c19 => ?_)
      · have h := ip h c19
        have h := Option.some.inj h
        subst h
        refine G_lv (lv' := [(2, .int u1)]) (lsame_cons rfl lsame_nil) ?_
        exact hK8
      · have h := inn h c19
        refine G_iload_n hc dX5_lettersIn_12 rfl ?_
        refine G_iload_n hc dX5_lettersIn_13 rfl ?_
        obtain ⟨z11, hu12, h⟩ := ob h
        refine G_callSI (ws2 := []) hc m_X5_88 (c_X5_letterOf l D cI cS X F a0 u2 hu12) [] (rmok_of (Nat.le_of_ble_eq_true rfl)) ⟨Nat.zero_le _, Nat.zero_le _⟩ rfl rfl rfl rfl rfl ⟨rfl, rfl, rfl⟩ dX5_lettersIn_14 ?_
        refine G_iload_n hc dX5_lettersIn_17 rfl ?_
        obtain ⟨t13, hr15, h⟩ := ob h
        have hj14 : G p l e (rmk 2) s m [.int a0, .int a1].toArray below meth c D A 4 0 0 (QI below [.int a0, .int a1].toArray s D A (PoI res [])) [] [(0, .int a0), (1, .int a1), (2, .int t13), (3, .int u2)] 24 [] := by
          obtain ⟨v18, e_v18, h⟩ := sb h
          refine G_iinc (v := v18) (lv' := [(0, .int a0), (1, .int a1), (2, .int t13), (3, .int v18)]) hc dX5_lettersIn_24 rfl (e_v18.trans rfl) rfl rfl ?_
          refine G_goto (tgt := 4) hc dX5_lettersIn_27 (by decide) ?_
          refine G_lv (lv' := [(0, .int a0), (1, .int a1), (2, .int t13), (3, .int v18)]) (lsame_cons rfl (lsame_cons rfl (lsame_cons rfl (lsame_cons rfl lsame_nil)))) ?_
          exact ih7 _ _ h
        clear h
        have h := hr15
        clear hr15
        refine G_icmp_ne (tgt := 24) hc dX5_lettersIn_18 (by decide) (fun c17 => ?_) (fun c17 => ?_)
        · have h := inn h c17
          have h := Option.some.inj h
          subst h
          refine G_lv (lv' := [(0, .int a0), (1, .int a1), (2, .int u1), (3, .int u2)]) (lsame_cons rfl (lsame_cons rfl (lsame_cons rfl (lsame_cons rfl lsame_nil)))) ?_
          exact hj14
        · have h := ip h c17
          obtain ⟨v16, e_v16, h⟩ := sb h
          refine G_iinc (v := v16) (lv' := [(0, .int a0), (1, .int a1), (2, .int v16), (3, .int u2)]) hc dX5_lettersIn_21 rfl (e_v16.trans rfl) rfl rfl ?_
          have h := Option.some.inj h
          subst h
          refine G_lv (lv' := [(0, .int a0), (1, .int a1), (2, .int v16), (3, .int u2)]) (lsame_cons rfl (lsame_cons rfl (lsame_cons rfl (lsame_cons rfl lsame_nil)))) ?_
          exact hj14
  refine G_lv (lv' := [(0, .int a0), (1, .int a1), (2, .int (0 : Int32)), (3, .int (0 : Int32))]) (lsame_cons rfl (lsame_cons rfl (lsame_cons rfl (lsame_cons rfl lsame_nil)))) ?_
  exact hL5 F _ _ hl4
set_option maxHeartbeats 4000000 in
set_option maxRecDepth 100000 in
theorem c_X5_commonDivisor (l : Launch) (D : va_G) (cI cS : ClassId) (X : XP) (F : Nat) (a0 : Int32) (a1 : Int32) {res : Int32} (h : f_X5_commonDivisor F a0 a1 = some res) : CtI l D cI cS X yX5_commonDivisor cX5_commonDivisor 6 (some .int) 1 [.int a0, .int a1] [] (PoI res []) := by
  refine CtI.of (by decide +kernel) rfl ?_
  intro p e s m below meth c A hc
  refine G_lv (lv' := [(0, .int a0), (1, .int a1)]) (lsame_cons rfl (lsame_cons rfl lsame_nil)) ?_
  unfold f_X5_commonDivisor at h
  refine G_iload_n hc dX5_commonDivisor_0 rfl ?_
  refine G_istore_n (lv' := [(0, .int a0), (1, .int a1), (2, .int a0)]) hc dX5_commonDivisor_1 rfl rfl ?_
  refine G_iload_n hc dX5_commonDivisor_2 rfl ?_
  refine G_istore_n (lv' := [(0, .int a0), (1, .int a1), (2, .int a0), (3, .int a1)]) hc dX5_commonDivisor_3 rfl rfl ?_
  refine G_iconst (v := 0) hc dX5_commonDivisor_4 (by decide) ?_
  refine G_istore (lv' := [(0, .int a0), (1, .int a1), (2, .int a0), (3, .int a1), (4, .int (0 : Int32))]) hc dX5_commonDivisor_5 rfl rfl ?_
  obtain ⟨e4, hl5, h⟩ := ob h
  have hK9 : G p l e (rmk 1) s m [.int a0, .int a1].toArray below meth c D A 6 0 0 (QI below [.int a0, .int a1].toArray s D A (PoI res [])) [] [(2, .int e4)] 34 [] := by
    refine G_iload_n hc dX5_commonDivisor_34 rfl ?_
    have h := Option.some.inj h
    subst h
    exact G_ireturn hc ⟨rfl, rfl⟩ dX5_commonDivisor_35
  clear h
  have hL6 : ∀ (n7 : Nat) (u1 : Int32) (u2 : Int32) (u3 : Int32), f_X5_commonDivisor_L7 F  n7 u1 u2 u3 = some e4 → G p l e (rmk 1) s m [.int a0, .int a1].toArray below meth c D A 6 0 0 (QI below [.int a0, .int a1].toArray s D A (PoI res [])) [] [(2, .int u1), (3, .int u2), (4, .int u3)] 7 [] := by
    intro n7
    induction n7 with
    | zero =>
      intro u1 u2 u3 h
      exact nz h
    | succ n7 ih8 =>
      intro u1 u2 u3 h
      rw [f_X5_commonDivisor_L7] at h
      refine G_iload hc dX5_commonDivisor_7 rfl ?_
      refine G_bipush (v := 64) hc dX5_commonDivisor_9 (by decide) ?_
      refine G_icmp_ge (tgt := 34) hc dX5_commonDivisor_11 (by decide) (fun c14 => ?_) (fun c14 => ?_)
      · have h := ip h c14
        have h := Option.some.inj h
        subst h
        refine G_lv (lv' := [(2, .int u1)]) (lsame_cons rfl lsame_nil) ?_
        exact hK9
      · have h := inn h c14
        refine G_iload_n hc dX5_commonDivisor_14 rfl ?_
        refine G_if_eq (tgt := 34) hc dX5_commonDivisor_15 (by decide) (fun c13 => ?_) (fun c13 => ?_)
        · have h := ip h c13
          have h := Option.some.inj h
          subst h
          refine G_lv (lv' := [(2, .int u1)]) (lsame_cons rfl lsame_nil) ?_
          exact hK9
        · have h := inn h c13
          refine G_iload_n hc dX5_commonDivisor_18 rfl ?_
          refine G_iload_n hc dX5_commonDivisor_19 rfl ?_
          obtain ⟨hz10, h⟩ := db h
          refine G_irem hc dX5_commonDivisor_20 hz10 ?_
          obtain ⟨v11, e_v11, h⟩ := sb h
          refine G_top e_v11 ?_
          refine G_istore (lv' := [(2, .int u1), (3, .int u2), (4, .int u3), (5, .int v11)]) hc dX5_commonDivisor_21 rfl rfl ?_
          refine G_iload_n hc dX5_commonDivisor_23 rfl ?_
          refine G_istore_n (lv' := [(2, .int u2), (3, .int u2), (4, .int u3), (5, .int v11)]) hc dX5_commonDivisor_24 rfl rfl ?_
          refine G_iload hc dX5_commonDivisor_25 rfl ?_
          refine G_istore_n (lv' := [(2, .int u2), (3, .int v11), (4, .int u3), (5, .int v11)]) hc dX5_commonDivisor_27 rfl rfl ?_
          obtain ⟨v12, e_v12, h⟩ := sb h
          refine G_iinc (v := v12) (lv' := [(2, .int u2), (3, .int v11), (4, .int v12), (5, .int v11)]) hc dX5_commonDivisor_28 rfl (e_v12.trans rfl) rfl rfl ?_
          refine G_goto (tgt := 7) hc dX5_commonDivisor_31 (by decide) ?_
          refine G_lv (lv' := [(2, .int u2), (3, .int v11), (4, .int v12)]) (lsame_cons rfl (lsame_cons rfl (lsame_cons rfl lsame_nil))) ?_
          exact ih8 _ _ _ h
  refine G_lv (lv' := [(2, .int a0), (3, .int a1), (4, .int (0 : Int32))]) (lsame_cons rfl (lsame_cons rfl (lsame_cons rfl lsame_nil))) ?_
  exact hL6 F _ _ _ hl5
