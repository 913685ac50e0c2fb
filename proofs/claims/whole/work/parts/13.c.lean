set_option maxHeartbeats 4000000 in
set_option maxRecDepth 100000 in
theorem c_X5_shuffles (l : Launch) (D : va_G) (cI cS : ClassId) (X : XP) (F : Nat) (h_x h_x_now h_x_now_book h_x_text h_x_text_signs h_x_trial h_x_trial_state h_x_trial_state_book h_x_ways h_x_ways_stock h_x_ways_weight h_x_ways_known h_x_ways_found h_x_measured h_x_pairCounts h_past : Nat) (x_pastStates : Int32) (x_now_row : Int32) (x_now_table : Int32) (x_now_kept : Int32) (x_now_book : Nat → Int32) (x_text_length : Int32) (x_text_word : Int32) (x_text_kind : Int32) (x_text_number : Int32) (x_text_row : Int32) (x_text_reached : Int32) (x_text_broken : Int32) (x_text_signs : Nat → Int32) (x_trial_orders : Int32) (x_trial_position : Int32) (x_trial_reason : Int32) (x_trial_cause : Int32) (x_trial_state_row : Int32) (x_trial_state_table : Int32) (x_trial_state_kept : Int32) (x_trial_state_book : Nat → Int32) (x_ways_measure : Bool) (x_ways_values : Int32) (x_ways_row : Int32) (x_ways_rowCodes : Int32) (x_ways_table : Int32) (x_ways_length : Int32) (x_ways_full : Int32) (x_ways_pairs : Int32) (x_ways_codes : Int32) (x_ways_stock : Nat → Int32) (x_ways_weight : Nat → Int32) (x_ways_known : Nat → Int32) (x_ways_found : Nat → Int32) (x_measured_which : Int32) (x_measured_x : Int32) (x_measured_y : Int32) (x_measured_row : Int32) (x_measured_table : Int32) (x_pairCounts : Nat → Int32) (a1 : Int32) {res : Int32 × Bool × Int32 × Int32 × Int32 × Int32 × Int32 × Int32 × Int32 × Int32 × (Nat → Int32) × (Nat → Int32) × (Nat → Int32) × (Nat → Int32)} (h : f_X5_shuffles F x_now_row x_now_table x_ways_measure x_ways_values x_ways_row x_ways_rowCodes x_ways_table x_ways_length x_ways_full x_ways_pairs x_ways_codes x_ways_stock x_ways_weight x_ways_known x_ways_found x_measured_which x_measured_x x_measured_y x_measured_row x_measured_table a1 = some res) : CtI l D cI cS X yX5_shuffles cX5_shuffles 2 (some .int) 18 [.ref h_x, .int a1] [(h_x, .inr (5, [.ref h_x_now, .ref h_past, .int x_pastStates, .ref h_x_text, .ref h_x_trial, .ref h_x_ways, .ref h_x_measured, .ref h_x_pairCounts])), (h_x_now, .inr (1, [.int x_now_row, .int x_now_table, .int x_now_kept, .ref h_x_now_book])), (h_x_now_book, .inl (cI, 8, .inl x_now_book)), (h_x_text, .inr (2, [.ref h_x_text_signs, .int x_text_length, .int x_text_word, .int x_text_kind, .int x_text_number, .int x_text_row, .int x_text_reached, .int x_text_broken])), (h_x_text_signs, .inl (cI, 60, .inl x_text_signs)), (h_x_trial, .inr (3, [.ref h_x_trial_state, .int x_trial_orders, .int x_trial_position, .int x_trial_reason, .int x_trial_cause])), (h_x_trial_state, .inr (1, [.int x_trial_state_row, .int x_trial_state_table, .int x_trial_state_kept, .ref h_x_trial_state_book])), (h_x_trial_state_book, .inl (cI, 8, .inl x_trial_state_book)), (h_x_ways, .inr (4, [.ref h_x_ways_stock, .ref h_x_ways_weight, .ref h_x_ways_known, .ref h_x_ways_found, nv x_ways_measure h_x_measured, .int x_ways_values, .int x_ways_row, .int x_ways_rowCodes, .int x_ways_table, .int x_ways_length, .int x_ways_full, .int x_ways_pairs, .int x_ways_codes])), (h_x_ways_stock, .inl (cI, 16, .inl x_ways_stock)), (h_x_ways_weight, .inl (cI, 16, .inl x_ways_weight)), (h_x_ways_known, .inl (cI, 577, .inl x_ways_known)), (h_x_ways_found, .inl (cI, 6347, .inl x_ways_found)), (h_x_measured, .inr (0, [.int x_measured_which, .int x_measured_x, .int x_measured_y, .int x_measured_row, .int x_measured_table])), (h_x_pairCounts, .inl (cI, 16, .inl x_pairCounts))] (PoI res.1 [(h_x, .inr (5, [.ref h_x_now, .ref h_past, .int x_pastStates, .ref h_x_text, .ref h_x_trial, .ref h_x_ways, .ref h_x_measured, .ref h_x_pairCounts])), (h_x_now, .inr (1, [.int x_now_row, .int x_now_table, .int x_now_kept, .ref h_x_now_book])), (h_x_now_book, .inl (cI, 8, .inl x_now_book)), (h_x_text, .inr (2, [.ref h_x_text_signs, .int x_text_length, .int x_text_word, .int x_text_kind, .int x_text_number, .int x_text_row, .int x_text_reached, .int x_text_broken])), (h_x_text_signs, .inl (cI, 60, .inl x_text_signs)), (h_x_trial, .inr (3, [.ref h_x_trial_state, .int x_trial_orders, .int x_trial_position, .int x_trial_reason, .int x_trial_cause])), (h_x_trial_state, .inr (1, [.int x_trial_state_row, .int x_trial_state_table, .int x_trial_state_kept, .ref h_x_trial_state_book])), (h_x_trial_state_book, .inl (cI, 8, .inl x_trial_state_book)), (h_x_ways, .inr (4, [.ref h_x_ways_stock, .ref h_x_ways_weight, .ref h_x_ways_known, .ref h_x_ways_found, nv res.2.1 h_x_measured, .int res.2.2.1, .int res.2.2.2.1, .int res.2.2.2.2.1, .int res.2.2.2.2.2.1, .int res.2.2.2.2.2.2.1, .int res.2.2.2.2.2.2.2.1, .int res.2.2.2.2.2.2.2.2.1, .int res.2.2.2.2.2.2.2.2.2.1])), (h_x_ways_stock, .inl (cI, 16, .inl res.2.2.2.2.2.2.2.2.2.2.1)), (h_x_ways_weight, .inl (cI, 16, .inl res.2.2.2.2.2.2.2.2.2.2.2.1)), (h_x_ways_known, .inl (cI, 577, .inl res.2.2.2.2.2.2.2.2.2.2.2.2.1)), (h_x_ways_found, .inl (cI, 6347, .inl res.2.2.2.2.2.2.2.2.2.2.2.2.2)), (h_x_measured, .inr (0, [.int x_measured_which, .int x_measured_x, .int x_measured_y, .int x_measured_row, .int x_measured_table])), (h_x_pairCounts, .inl (cI, 16, .inl x_pairCounts))]) := by
  refine CtI.of (by decide +kernel) rfl ?_
  intro p e s m below meth c A hc
  refine G_lv (lv' := [(0, .ref h_x), (1, .int a1)]) (lsame_cons rfl (lsame_cons rfl lsame_nil)) ?_
  unfold f_X5_shuffles at h
  refine G_iload_n hc dX5_shuffles_0 rfl ?_
  refine G_iconst (v := 3) hc dX5_shuffles_1 (by decide) ?_
  obtain ⟨z1, hu2, h⟩ := ob h
  refine G_callSI (ws2 := [(h_x, .inr (5, [.ref h_x_now, .ref h_past, .int x_pastStates, .ref h_x_text, .ref h_x_trial, .ref h_x_ways, .ref h_x_measured, .ref h_x_pairCounts])), (h_x_now, .inr (1, [.int x_now_row, .int x_now_table, .int x_now_kept, .ref h_x_now_book])), (h_x_now_book, .inl (cI, 8, .inl x_now_book)), (h_x_text, .inr (2, [.ref h_x_text_signs, .int x_text_length, .int x_text_word, .int x_text_kind, .int x_text_number, .int x_text_row, .int x_text_reached, .int x_text_broken])), (h_x_text_signs, .inl (cI, 60, .inl x_text_signs)), (h_x_trial, .inr (3, [.ref h_x_trial_state, .int x_trial_orders, .int x_trial_position, .int x_trial_reason, .int x_trial_cause])), (h_x_trial_state, .inr (1, [.int x_trial_state_row, .int x_trial_state_table, .int x_trial_state_kept, .ref h_x_trial_state_book])), (h_x_trial_state_book, .inl (cI, 8, .inl x_trial_state_book)), (h_x_ways, .inr (4, [.ref h_x_ways_stock, .ref h_x_ways_weight, .ref h_x_ways_known, .ref h_x_ways_found, nv x_ways_measure h_x_measured, .int x_ways_values, .int x_ways_row, .int x_ways_rowCodes, .int x_ways_table, .int x_ways_length, .int x_ways_full, .int x_ways_pairs, .int x_ways_codes])), (h_x_ways_stock, .inl (cI, 16, .inl x_ways_stock)), (h_x_ways_weight, .inl (cI, 16, .inl x_ways_weight)), (h_x_ways_known, .inl (cI, 577, .inl x_ways_known)), (h_x_ways_found, .inl (cI, 6347, .inl x_ways_found)), (h_x_measured, .inr (0, [.int x_measured_which, .int x_measured_x, .int x_measured_y, .int x_measured_row, .int x_measured_table])), (h_x_pairCounts, .inl (cI, 16, .inl x_pairCounts))]) hc m_X5_52 (c_X5_within l D cI cS X F a1 (3 : Int32) hu2) [] (rmok_of (Nat.le_of_ble_eq_true rfl)) ⟨Nat.zero_le _, Nat.zero_le _⟩ rfl rfl rfl rfl rfl ⟨rfl, rfl, rfl⟩ dX5_shuffles_2 ?_
  refine G_if_ne (tgt := 11) hc dX5_shuffles_5 (by decide) (fun c7 => ?_) (fun c7 => ?_)
  · have h := inn h c7
    refine G_aload_n hc dX5_shuffles_11 rfl ?_
    refine G_get hc f_X5_37 0 rfl rfl dX5_shuffles_12 ?_
    refine G_aload_n hc dX5_shuffles_15 rfl ?_
    refine G_get hc f_X5_10 0 rfl rfl dX5_shuffles_16 ?_
    refine G_iload_n hc dX5_shuffles_19 rfl ?_
    obtain ⟨z3, hu4, h⟩ := ob h
    refine G_callVV (ws2 := [(h_x, .inr (5, [.ref h_x_now, .ref h_past, .int x_pastStates, .ref h_x_text, .ref h_x_trial, .ref h_x_ways, .ref h_x_measured, .ref h_x_pairCounts])), (h_x_now, .inr (1, [.int x_now_row, .int x_now_table, .int x_now_kept, .ref h_x_now_book])), (h_x_now_book, .inl (cI, 8, .inl x_now_book)), (h_x_text, .inr (2, [.ref h_x_text_signs, .int x_text_length, .int x_text_word, .int x_text_kind, .int x_text_number, .int x_text_row, .int x_text_reached, .int x_text_broken])), (h_x_text_signs, .inl (cI, 60, .inl x_text_signs)), (h_x_trial, .inr (3, [.ref h_x_trial_state, .int x_trial_orders, .int x_trial_position, .int x_trial_reason, .int x_trial_cause])), (h_x_trial_state, .inr (1, [.int x_trial_state_row, .int x_trial_state_table, .int x_trial_state_kept, .ref h_x_trial_state_book])), (h_x_trial_state_book, .inl (cI, 8, .inl x_trial_state_book)), (h_x_ways, .inr (4, [.ref h_x_ways_stock, .ref h_x_ways_weight, .ref h_x_ways_known, .ref h_x_ways_found, nv z3.1 h_x_measured, .int z3.2.1, .int z3.2.2.1, .int z3.2.2.2.1, .int z3.2.2.2.2.1, .int z3.2.2.2.2.2.1, .int z3.2.2.2.2.2.2.1, .int z3.2.2.2.2.2.2.2.1, .int z3.2.2.2.2.2.2.2.2.1])), (h_x_ways_stock, .inl (cI, 16, .inl z3.2.2.2.2.2.2.2.2.2.1)), (h_x_ways_weight, .inl (cI, 16, .inl z3.2.2.2.2.2.2.2.2.2.2.1)), (h_x_ways_known, .inl (cI, 577, .inl z3.2.2.2.2.2.2.2.2.2.2.2.1)), (h_x_ways_found, .inl (cI, 6347, .inl z3.2.2.2.2.2.2.2.2.2.2.2.2)), (h_x_measured, .inr (0, [.int x_measured_which, .int x_measured_x, .int x_measured_y, .int x_measured_row, .int x_measured_table])), (h_x_pairCounts, .inl (cI, 16, .inl x_pairCounts))]) hc m_X5_104 (c_X4_open l D cI cS X F h_x_ways h_x_ways_stock h_x_ways_weight h_x_ways_known h_x_ways_found h_x_measured h_x_now h_x_now_book x_ways_measure x_ways_values x_ways_row x_ways_rowCodes x_ways_table x_ways_length x_ways_full x_ways_pairs x_ways_codes x_ways_stock x_ways_weight x_ways_known x_ways_found x_measured_which x_measured_x x_measured_y x_measured_row x_measured_table x_now_row x_now_table x_now_kept x_now_book a1 hu4) 8 [8, 9, 10, 11, 12, 13, 1, 2] rfl rfl (rmok_of (Nat.le_of_ble_eq_true rfl)) ⟨Nat.zero_le _, Nat.zero_le _⟩ rfl rfl rfl rfl rfl ⟨rfl, rfl, rfl⟩ dX5_shuffles_20 ?_
    refine G_aload_n hc dX5_shuffles_23 rfl ?_
    refine G_get hc f_X5_37 0 rfl rfl dX5_shuffles_24 ?_
    obtain ⟨z5, hu6, h⟩ := ob h
    refine G_callVI (ws2 := [(h_x, .inr (5, [.ref h_x_now, .ref h_past, .int x_pastStates, .ref h_x_text, .ref h_x_trial, .ref h_x_ways, .ref h_x_measured, .ref h_x_pairCounts])), (h_x_now, .inr (1, [.int x_now_row, .int x_now_table, .int x_now_kept, .ref h_x_now_book])), (h_x_now_book, .inl (cI, 8, .inl x_now_book)), (h_x_text, .inr (2, [.ref h_x_text_signs, .int x_text_length, .int x_text_word, .int x_text_kind, .int x_text_number, .int x_text_row, .int x_text_reached, .int x_text_broken])), (h_x_text_signs, .inl (cI, 60, .inl x_text_signs)), (h_x_trial, .inr (3, [.ref h_x_trial_state, .int x_trial_orders, .int x_trial_position, .int x_trial_reason, .int x_trial_cause])), (h_x_trial_state, .inr (1, [.int x_trial_state_row, .int x_trial_state_table, .int x_trial_state_kept, .ref h_x_trial_state_book])), (h_x_trial_state_book, .inl (cI, 8, .inl x_trial_state_book)), (h_x_ways, .inr (4, [.ref h_x_ways_stock, .ref h_x_ways_weight, .ref h_x_ways_known, .ref h_x_ways_found, nv z3.1 h_x_measured, .int z3.2.1, .int z3.2.2.1, .int z3.2.2.2.1, .int z3.2.2.2.2.1, .int z3.2.2.2.2.2.1, .int z3.2.2.2.2.2.2.1, .int z3.2.2.2.2.2.2.2.1, .int z3.2.2.2.2.2.2.2.2.1])), (h_x_ways_stock, .inl (cI, 16, .inl z3.2.2.2.2.2.2.2.2.2.1)), (h_x_ways_weight, .inl (cI, 16, .inl z3.2.2.2.2.2.2.2.2.2.2.1)), (h_x_ways_known, .inl (cI, 577, .inl z3.2.2.2.2.2.2.2.2.2.2.2.1)), (h_x_ways_found, .inl (cI, 6347, .inl z3.2.2.2.2.2.2.2.2.2.2.2.2)), (h_x_measured, .inr (0, [.int x_measured_which, .int x_measured_x, .int x_measured_y, .int x_measured_row, .int x_measured_table])), (h_x_pairCounts, .inl (cI, 16, .inl x_pairCounts))]) hc m_X5_108 (c_X4_total l D cI cS X F h_x_ways h_x_ways_stock h_x_ways_weight h_x_ways_known h_x_ways_found h_x_measured z3.1 z3.2.1 z3.2.2.1 z3.2.2.2.1 z3.2.2.2.2.1 z3.2.2.2.2.2.1 z3.2.2.2.2.2.2.1 z3.2.2.2.2.2.2.2.1 z3.2.2.2.2.2.2.2.2.1 z3.2.2.2.2.2.2.2.2.2.1 z3.2.2.2.2.2.2.2.2.2.2.1 z3.2.2.2.2.2.2.2.2.2.2.2.1 z3.2.2.2.2.2.2.2.2.2.2.2.2 x_measured_which x_measured_x x_measured_y x_measured_row x_measured_table hu6) 8 [8, 9, 10, 11, 12, 13] rfl rfl (rmok_of (Nat.le_of_ble_eq_true rfl)) ⟨Nat.zero_le _, Nat.zero_le _⟩ rfl rfl rfl rfl rfl ⟨rfl, rfl, rfl⟩ dX5_shuffles_27 ?_
    have h := Option.some.inj h
    subst h
    exact G_ireturn hc ⟨rfl, rfl⟩ dX5_shuffles_30
  · have h := ip h c7
    refine G_ldc (v := -1000001) hc k_X5_56 dX5_shuffles_8 ?_
    have h := Option.some.inj h
    subst h
    exact G_ireturn hc ⟨rfl, rfl⟩ dX5_shuffles_10
set_option maxHeartbeats 4000000 in
set_option maxRecDepth 100000 in
theorem c_X4_continued (l : Launch) (D : va_G) (cI cS : ClassId) (X : XP) (F : Nat) (h_w h_w_stock h_w_weight h_w_known h_w_found h_wM : Nat) (w_measure : Bool) (w_values : Int32) (w_row : Int32) (w_rowCodes : Int32) (w_table : Int32) (w_length : Int32) (w_full : Int32) (w_pairs : Int32) (w_codes : Int32) (w_stock : Nat → Int32) (w_weight : Nat → Int32) (w_known : Nat → Int32) (w_found : Nat → Int32) (wM_which : Int32) (wM_x : Int32) (wM_y : Int32) (wM_row : Int32) (wM_table : Int32) (a1 : Int32) (a2 : Int32) (a3 : Int32) (a4 : Int32) {res : Int32} (h : f_X4_continued F w_values w_row w_rowCodes w_table w_pairs w_codes w_stock w_weight w_found a1 a2 a3 a4 = some res) : CtI l D cI cS X yX4_continued cX4_continued 6 (some .int) 3 [.ref h_w, .int a1, .int a2, .int a3, .int a4] [(h_w, .inr (4, [.ref h_w_stock, .ref h_w_weight, .ref h_w_known, .ref h_w_found, nv w_measure h_wM, .int w_values, .int w_row, .int w_rowCodes, .int w_table, .int w_length, .int w_full, .int w_pairs, .int w_codes])), (h_w_stock, .inl (cI, 16, .inl w_stock)), (h_w_weight, .inl (cI, 16, .inl w_weight)), (h_w_known, .inl (cI, 577, .inl w_known)), (h_w_found, .inl (cI, 6347, .inl w_found)), (h_wM, .inr (0, [.int wM_which, .int wM_x, .int wM_y, .int wM_row, .int wM_table]))] (PoI res [(h_w, .inr (4, [.ref h_w_stock, .ref h_w_weight, .ref h_w_known, .ref h_w_found, nv w_measure h_wM, .int w_values, .int w_row, .int w_rowCodes, .int w_table, .int w_length, .int w_full, .int w_pairs, .int w_codes])), (h_w_stock, .inl (cI, 16, .inl w_stock)), (h_w_weight, .inl (cI, 16, .inl w_weight)), (h_w_known, .inl (cI, 577, .inl w_known)), (h_w_found, .inl (cI, 6347, .inl w_found)), (h_wM, .inr (0, [.int wM_which, .int wM_x, .int wM_y, .int wM_row, .int wM_table]))]) := by
  refine CtI.of (by decide +kernel) rfl ?_
  intro p e s m below meth c A hc
  refine G_lv (lv' := [(0, .ref h_w), (1, .int a1), (2, .int a2), (3, .int a3), (4, .int a4)]) (lsame_cons rfl (lsame_cons rfl (lsame_cons rfl (lsame_cons rfl (lsame_cons rfl lsame_nil))))) ?_
  unfold f_X4_continued at h
  refine G_aload_n hc dX4_continued_0 rfl ?_
  refine G_iload_n hc dX4_continued_1 rfl ?_
  refine G_iload_n hc dX4_continued_2 rfl ?_
  refine G_iload_n hc dX4_continued_3 rfl ?_
  refine G_iload hc dX4_continued_4 rfl ?_
  obtain ⟨z1, hu2, h⟩ := ob h
  refine G_callVI (ws2 := [(h_w, .inr (4, [.ref h_w_stock, .ref h_w_weight, .ref h_w_known, .ref h_w_found, nv w_measure h_wM, .int w_values, .int w_row, .int w_rowCodes, .int w_table, .int w_length, .int w_full, .int w_pairs, .int w_codes])), (h_w_stock, .inl (cI, 16, .inl w_stock)), (h_w_weight, .inl (cI, 16, .inl w_weight)), (h_w_known, .inl (cI, 577, .inl w_known)), (h_w_found, .inl (cI, 6347, .inl w_found)), (h_wM, .inr (0, [.int wM_which, .int wM_x, .int wM_y, .int wM_row, .int wM_table]))]) hc m_X4_119 (c_X4_leftAfter l D cI cS X F h_w h_w_stock h_w_weight h_w_known h_w_found h_wM w_measure w_values w_row w_rowCodes w_table w_length w_full w_pairs w_codes w_stock w_weight w_known w_found wM_which wM_x wM_y wM_row wM_table a1 a2 a3 a4 hu2) 0 [0, 1, 2, 3, 4, 5] rfl rfl (rmok_of (Nat.le_of_ble_eq_true rfl)) ⟨Nat.zero_le _, Nat.zero_le _⟩ rfl rfl rfl rfl rfl ⟨rfl, rfl, rfl⟩ dX4_continued_6 ?_
  refine G_istore (lv' := [(0, .ref h_w), (1, .int a1), (2, .int a2), (3, .int a3), (4, .int a4), (5, .int z1)]) hc dX4_continued_9 rfl rfl ?_
  refine G_iload hc dX4_continued_11 rfl ?_
  refine G_iconst (v := -1) hc dX4_continued_13 (by decide) ?_
  obtain ⟨t3, hr5, h⟩ := ob h
  have hj4 : G p l e (rmk 3) s m [.ref h_w, .int a1, .int a2, .int a3, .int a4].toArray below meth c D A 6 0 0 (QI below [.ref h_w, .int a1, .int a2, .int a3, .int a4].toArray s D A (PoI res [(h_w, .inr (4, [.ref h_w_stock, .ref h_w_weight, .ref h_w_known, .ref h_w_found, nv w_measure h_wM, .int w_values, .int w_row, .int w_rowCodes, .int w_table, .int w_length, .int w_full, .int w_pairs, .int w_codes])), (h_w_stock, .inl (cI, 16, .inl w_stock)), (h_w_weight, .inl (cI, 16, .inl w_weight)), (h_w_known, .inl (cI, 577, .inl w_known)), (h_w_found, .inl (cI, 6347, .inl w_found)), (h_wM, .inr (0, [.int wM_which, .int wM_x, .int wM_y, .int wM_row, .int wM_table]))])) [(h_w, .inr (4, [.ref h_w_stock, .ref h_w_weight, .ref h_w_known, .ref h_w_found, nv w_measure h_wM, .int w_values, .int w_row, .int w_rowCodes, .int w_table, .int w_length, .int w_full, .int w_pairs, .int w_codes])), (h_w_stock, .inl (cI, 16, .inl w_stock)), (h_w_weight, .inl (cI, 16, .inl w_weight)), (h_w_known, .inl (cI, 577, .inl w_known)), (h_w_found, .inl (cI, 6347, .inl w_found)), (h_wM, .inr (0, [.int wM_which, .int wM_x, .int wM_y, .int wM_row, .int wM_table]))] [] 36 [.int t3] := by
    have h := Option.some.inj h
    subst h
    exact G_ireturn hc ⟨rfl, rfl⟩ dX4_continued_36
  clear h
  have h := hr5
  clear hr5
  refine G_icmp_ne (tgt := 21) hc dX4_continued_14 (by decide) (fun c10 => ?_) (fun c10 => ?_)
  · have h := inn h c10
    refine G_aload_n hc dX4_continued_21 rfl ?_
    refine G_aload_n hc dX4_continued_22 rfl ?_
    refine G_iload hc dX4_continued_23 rfl ?_
    refine G_iload hc dX4_continued_25 rfl ?_
    refine G_iload_n hc dX4_continued_27 rfl ?_
    refine G_iconst (v := 1) hc dX4_continued_28 (by decide) ?_
    refine G_iadd hc dX4_continued_29 ?_
    obtain ⟨z6, hu7, h⟩ := ob h
    refine G_callVI (ws2 := [(h_w, .inr (4, [.ref h_w_stock, .ref h_w_weight, .ref h_w_known, .ref h_w_found, nv w_measure h_wM, .int w_values, .int w_row, .int w_rowCodes, .int w_table, .int w_length, .int w_full, .int w_pairs, .int w_codes])), (h_w_stock, .inl (cI, 16, .inl w_stock)), (h_w_weight, .inl (cI, 16, .inl w_weight)), (h_w_known, .inl (cI, 577, .inl w_known)), (h_w_found, .inl (cI, 6347, .inl w_found)), (h_wM, .inr (0, [.int wM_which, .int wM_x, .int wM_y, .int wM_row, .int wM_table]))]) hc m_X4_105 (c_X4_entryOf l D cI cS X F h_w h_w_stock h_w_weight h_w_known h_w_found h_wM w_measure w_values w_row w_rowCodes w_table w_length w_full w_pairs w_codes w_stock w_weight w_known w_found wM_which wM_x wM_y wM_row wM_table z1 a4 (a3 + (1 : Int32)) hu7) 0 [0, 1, 2, 3, 4, 5] rfl rfl (rmok_of (Nat.le_of_ble_eq_true rfl)) ⟨Nat.zero_le _, Nat.zero_le _⟩ rfl rfl rfl rfl rfl ⟨rfl, rfl, rfl⟩ dX4_continued_30 ?_
    obtain ⟨z8, hu9, h⟩ := ob h
    refine G_callVI (ws2 := [(h_w, .inr (4, [.ref h_w_stock, .ref h_w_weight, .ref h_w_known, .ref h_w_found, nv w_measure h_wM, .int w_values, .int w_row, .int w_rowCodes, .int w_table, .int w_length, .int w_full, .int w_pairs, .int w_codes])), (h_w_stock, .inl (cI, 16, .inl w_stock)), (h_w_weight, .inl (cI, 16, .inl w_weight)), (h_w_known, .inl (cI, 577, .inl w_known)), (h_w_found, .inl (cI, 6347, .inl w_found)), (h_wM, .inr (0, [.int wM_which, .int wM_x, .int wM_y, .int wM_row, .int wM_table]))]) hc m_X4_141 (c_X4_allOf l D cI cS X F h_w h_w_stock h_w_weight h_w_known h_w_found h_wM w_measure w_values w_row w_rowCodes w_table w_length w_full w_pairs w_codes w_stock w_weight w_known w_found wM_which wM_x wM_y wM_row wM_table z6 hu9) 0 [0, 1, 2, 3, 4, 5] rfl rfl (rmok_of (Nat.le_of_ble_eq_true rfl)) ⟨Nat.zero_le _, Nat.zero_le _⟩ rfl rfl rfl rfl rfl ⟨rfl, rfl, rfl⟩ dX4_continued_33 ?_
    have h := Option.some.inj h
    subst h
    refine G_lv (lv' := []) lsame_nil ?_
    exact hj4
  · have h := ip h c10
    refine G_iconst (v := 0) hc dX4_continued_17 (by decide) ?_
    refine G_goto (tgt := 36) hc dX4_continued_18 (by decide) ?_
    have h := Option.some.inj h
    subst h
    refine G_lv (lv' := []) lsame_nil ?_
    exact hj4
set_option maxHeartbeats 4000000 in
set_option maxRecDepth 100000 in
theorem c_X4_placeOfRow (l : Launch) (D : va_G) (cI cS : ClassId) (X : XP) (F : Nat) (h_w h_w_stock h_w_weight h_w_known h_w_found h_wM : Nat) (w_measure : Bool) (w_values : Int32) (w_row : Int32) (w_rowCodes : Int32) (w_table : Int32) (w_length : Int32) (w_full : Int32) (w_pairs : Int32) (w_codes : Int32) (w_stock : Nat → Int32) (w_weight : Nat → Int32) (w_known : Nat → Int32) (w_found : Nat → Int32) (wM_which : Int32) (wM_x : Int32) (wM_y : Int32) (wM_row : Int32) (wM_table : Int32) {res : Int32} (h : f_X4_placeOfRow F w_values w_row w_rowCodes w_table w_length w_full w_pairs w_codes w_stock w_weight w_found = some res) : CtI l D cI cS X yX4_placeOfRow cX4_placeOfRow 7 (some .int) 4 [.ref h_w] [(h_w, .inr (4, [.ref h_w_stock, .ref h_w_weight, .ref h_w_known, .ref h_w_found, nv w_measure h_wM, .int w_values, .int w_row, .int w_rowCodes, .int w_table, .int w_length, .int w_full, .int w_pairs, .int w_codes])), (h_w_stock, .inl (cI, 16, .inl w_stock)), (h_w_weight, .inl (cI, 16, .inl w_weight)), (h_w_known, .inl (cI, 577, .inl w_known)), (h_w_found, .inl (cI, 6347, .inl w_found)), (h_wM, .inr (0, [.int wM_which, .int wM_x, .int wM_y, .int wM_row, .int wM_table]))] (PoI res [(h_w, .inr (4, [.ref h_w_stock, .ref h_w_weight, .ref h_w_known, .ref h_w_found, nv w_measure h_wM, .int w_values, .int w_row, .int w_rowCodes, .int w_table, .int w_length, .int w_full, .int w_pairs, .int w_codes])), (h_w_stock, .inl (cI, 16, .inl w_stock)), (h_w_weight, .inl (cI, 16, .inl w_weight)), (h_w_known, .inl (cI, 577, .inl w_known)), (h_w_found, .inl (cI, 6347, .inl w_found)), (h_wM, .inr (0, [.int wM_which, .int wM_x, .int wM_y, .int wM_row, .int wM_table]))]) := by
  refine CtI.of (by decide +kernel) rfl ?_
  intro p e s m below meth c A hc
  refine G_lv (lv' := [(0, .ref h_w)]) (lsame_cons rfl lsame_nil) ?_
  unfold f_X4_placeOfRow at h
  refine G_iconst (v := 0) hc dX4_placeOfRow_0 (by decide) ?_
  refine G_istore_n (lv' := [(0, .ref h_w), (1, .int (0 : Int32))]) hc dX4_placeOfRow_1 rfl rfl ?_
  refine G_aload_n hc dX4_placeOfRow_2 rfl ?_
  refine G_get hc f_X4_46 0 rfl rfl dX4_placeOfRow_3 ?_
  refine G_istore_n (lv' := [(0, .ref h_w), (1, .int (0 : Int32)), (2, .int w_full)]) hc dX4_placeOfRow_6 rfl rfl ?_
  refine G_iconst (v := 0) hc dX4_placeOfRow_7 (by decide) ?_
  refine G_istore_n (lv' := [(0, .ref h_w), (1, .int (0 : Int32)), (2, .int w_full), (3, .int (0 : Int32))]) hc dX4_placeOfRow_8 rfl rfl ?_
  refine G_iconst (v := 0) hc dX4_placeOfRow_9 (by decide) ?_
  refine G_istore (lv' := [(0, .ref h_w), (1, .int (0 : Int32)), (2, .int w_full), (3, .int (0 : Int32)), (4, .int (0 : Int32))]) hc dX4_placeOfRow_10 rfl rfl ?_
  obtain ⟨e5, hl6, h⟩ := ob h
  have hK10 : G p l e (rmk 4) s m [.ref h_w].toArray below meth c D A 7 0 0 (QI below [.ref h_w].toArray s D A (PoI res [(h_w, .inr (4, [.ref h_w_stock, .ref h_w_weight, .ref h_w_known, .ref h_w_found, nv w_measure h_wM, .int w_values, .int w_row, .int w_rowCodes, .int w_table, .int w_length, .int w_full, .int w_pairs, .int w_codes])), (h_w_stock, .inl (cI, 16, .inl w_stock)), (h_w_weight, .inl (cI, 16, .inl w_weight)), (h_w_known, .inl (cI, 577, .inl w_known)), (h_w_found, .inl (cI, 6347, .inl w_found)), (h_wM, .inr (0, [.int wM_which, .int wM_x, .int wM_y, .int wM_row, .int wM_table]))])) [(h_w, .inr (4, [.ref h_w_stock, .ref h_w_weight, .ref h_w_known, .ref h_w_found, nv w_measure h_wM, .int w_values, .int w_row, .int w_rowCodes, .int w_table, .int w_length, .int w_full, .int w_pairs, .int w_codes])), (h_w_stock, .inl (cI, 16, .inl w_stock)), (h_w_weight, .inl (cI, 16, .inl w_weight)), (h_w_known, .inl (cI, 577, .inl w_known)), (h_w_found, .inl (cI, 6347, .inl w_found)), (h_wM, .inr (0, [.int wM_which, .int wM_x, .int wM_y, .int wM_row, .int wM_table]))] [(1, .int e5)] 81 [] := by
    refine G_iload_n hc dX4_placeOfRow_81 rfl ?_
    have h := Option.some.inj h
    subst h
    exact G_ireturn hc ⟨rfl, rfl⟩ dX4_placeOfRow_82
  clear h
  have hL7 : ∀ (n8 : Nat) (u1 : Int32) (u2 : Int32) (u3 : Int32) (u4 : Int32), f_X4_placeOfRow_L12 F w_values w_row w_rowCodes w_table w_length w_pairs w_codes w_stock w_weight w_found n8 u1 u2 u3 u4 = some e5 → G p l e (rmk 4) s m [.ref h_w].toArray below meth c D A 7 0 0 (QI below [.ref h_w].toArray s D A (PoI res [(h_w, .inr (4, [.ref h_w_stock, .ref h_w_weight, .ref h_w_known, .ref h_w_found, nv w_measure h_wM, .int w_values, .int w_row, .int w_rowCodes, .int w_table, .int w_length, .int w_full, .int w_pairs, .int w_codes])), (h_w_stock, .inl (cI, 16, .inl w_stock)), (h_w_weight, .inl (cI, 16, .inl w_weight)), (h_w_known, .inl (cI, 577, .inl w_known)), (h_w_found, .inl (cI, 6347, .inl w_found)), (h_wM, .inr (0, [.int wM_which, .int wM_x, .int wM_y, .int wM_row, .int wM_table]))])) [(h_w, .inr (4, [.ref h_w_stock, .ref h_w_weight, .ref h_w_known, .ref h_w_found, nv w_measure h_wM, .int w_values, .int w_row, .int w_rowCodes, .int w_table, .int w_length, .int w_full, .int w_pairs, .int w_codes])), (h_w_stock, .inl (cI, 16, .inl w_stock)), (h_w_weight, .inl (cI, 16, .inl w_weight)), (h_w_known, .inl (cI, 577, .inl w_known)), (h_w_found, .inl (cI, 6347, .inl w_found)), (h_wM, .inr (0, [.int wM_which, .int wM_x, .int wM_y, .int wM_row, .int wM_table]))] [(0, .ref h_w), (1, .int u1), (2, .int u2), (3, .int u3), (4, .int u4)] 12 [] := by
    intro n8
    induction n8 with
    | zero =>
      intro u1 u2 u3 u4 h
      exact nz h
    | succ n8 ih9 =>
      intro u1 u2 u3 u4 h
      rw [f_X4_placeOfRow_L12] at h
      refine G_iload hc dX4_placeOfRow_12 rfl ?_
      refine G_aload_n hc dX4_placeOfRow_14 rfl ?_
      refine G_get hc f_X4_68 0 rfl rfl dX4_placeOfRow_15 ?_
      refine G_icmp_ge (tgt := 81) hc dX4_placeOfRow_18 (by decide) (fun c29 => ?_) (fun c29 => ?_)
      · have h := ip h c29
        have h := Option.some.inj h
        subst h
        refine G_lv (lv' := [(1, .int u1)]) (lsame_cons rfl lsame_nil) ?_
        exact hK10
      · have h := inn h c29
        refine G_aload_n hc dX4_placeOfRow_21 rfl ?_
        refine G_get hc f_X4_59 0 rfl rfl dX4_placeOfRow_22 ?_
        refine G_iload hc dX4_placeOfRow_25 rfl ?_
        obtain ⟨z11, hu12, h⟩ := ob h
        refine G_callNI (ws2 := [(h_w, .inr (4, [.ref h_w_stock, .ref h_w_weight, .ref h_w_known, .ref h_w_found, nv w_measure h_wM, .int w_values, .int w_row, .int w_rowCodes, .int w_table, .int w_length, .int w_full, .int w_pairs, .int w_codes])), (h_w_stock, .inl (cI, 16, .inl w_stock)), (h_w_weight, .inl (cI, 16, .inl w_weight)), (h_w_known, .inl (cI, 577, .inl w_known)), (h_w_found, .inl (cI, 6347, .inl w_found)), (h_wM, .inr (0, [.int wM_which, .int wM_x, .int wM_y, .int wM_row, .int wM_table]))]) hc m_X4_102 (c_X5_letterOf l D cI cS X F w_row u4 hu12) [] (rmok_of (Nat.le_of_ble_eq_true rfl)) ⟨Nat.zero_le _, Nat.zero_le _⟩ rfl rfl rfl rfl rfl ⟨rfl, rfl, rfl⟩ dX4_placeOfRow_27 ?_
        refine G_istore (lv' := [(0, .ref h_w), (1, .int u1), (2, .int u2), (3, .int u3), (4, .int u4), (5, .int z11)]) hc dX4_placeOfRow_30 rfl rfl ?_
        refine G_iconst (v := 0) hc dX4_placeOfRow_32 (by decide) ?_
        refine G_istore (lv' := [(0, .ref h_w), (1, .int u1), (2, .int u2), (3, .int u3), (4, .int u4), (5, .int z11), (6, .int (0 : Int32))]) hc dX4_placeOfRow_33 rfl rfl ?_
        obtain ⟨e15, hl16, h⟩ := ob h
        have hK20 : G p l e (rmk 4) s m [.ref h_w].toArray below meth c D A 7 0 0 (QI below [.ref h_w].toArray s D A (PoI res [(h_w, .inr (4, [.ref h_w_stock, .ref h_w_weight, .ref h_w_known, .ref h_w_found, nv w_measure h_wM, .int w_values, .int w_row, .int w_rowCodes, .int w_table, .int w_length, .int w_full, .int w_pairs, .int w_codes])), (h_w_stock, .inl (cI, 16, .inl w_stock)), (h_w_weight, .inl (cI, 16, .inl w_weight)), (h_w_known, .inl (cI, 577, .inl w_known)), (h_w_found, .inl (cI, 6347, .inl w_found)), (h_wM, .inr (0, [.int wM_which, .int wM_x, .int wM_y, .int wM_row, .int wM_table]))])) [(h_w, .inr (4, [.ref h_w_stock, .ref h_w_weight, .ref h_w_known, .ref h_w_found, nv w_measure h_wM, .int w_values, .int w_row, .int w_rowCodes, .int w_table, .int w_length, .int w_full, .int w_pairs, .int w_codes])), (h_w_stock, .inl (cI, 16, .inl w_stock)), (h_w_weight, .inl (cI, 16, .inl w_weight)), (h_w_known, .inl (cI, 577, .inl w_known)), (h_w_found, .inl (cI, 6347, .inl w_found)), (h_wM, .inr (0, [.int wM_which, .int wM_x, .int wM_y, .int wM_row, .int wM_table]))] [(0, .ref h_w), (1, .int e15), (2, .int u2), (3, .int u3), (4, .int u4), (5, .int z11)] 61 [] := by
          refine G_aload_n hc dX4_placeOfRow_61 rfl ?_
          refine G_iload_n hc dX4_placeOfRow_62 rfl ?_
          refine G_iload_n hc dX4_placeOfRow_63 rfl ?_
          refine G_iload hc dX4_placeOfRow_64 rfl ?_
          refine G_iload hc dX4_placeOfRow_66 rfl ?_
          obtain ⟨z26, hu27, h⟩ := ob h
          refine G_callVI (ws2 := [(h_w, .inr (4, [.ref h_w_stock, .ref h_w_weight, .ref h_w_known, .ref h_w_found, nv w_measure h_wM, .int w_values, .int w_row, .int w_rowCodes, .int w_table, .int w_length, .int w_full, .int w_pairs, .int w_codes])), (h_w_stock, .inl (cI, 16, .inl w_stock)), (h_w_weight, .inl (cI, 16, .inl w_weight)), (h_w_known, .inl (cI, 577, .inl w_known)), (h_w_found, .inl (cI, 6347, .inl w_found)), (h_wM, .inr (0, [.int wM_which, .int wM_x, .int wM_y, .int wM_row, .int wM_table]))]) hc m_X4_119 (c_X4_leftAfter l D cI cS X F h_w h_w_stock h_w_weight h_w_known h_w_found h_wM w_measure w_values w_row w_rowCodes w_table w_length w_full w_pairs w_codes w_stock w_weight w_known w_found wM_which wM_x wM_y wM_row wM_table u2 u3 u4 z11 hu27) 0 [0, 1, 2, 3, 4, 5] rfl rfl (rmok_of (Nat.le_of_ble_eq_true rfl)) ⟨Nat.zero_le _, Nat.zero_le _⟩ rfl rfl rfl rfl rfl ⟨rfl, rfl, rfl⟩ dX4_placeOfRow_68 ?_
          refine G_istore_n (lv' := [(0, .ref h_w), (1, .int e15), (2, .int z26), (3, .int u3), (4, .int u4), (5, .int z11)]) hc dX4_placeOfRow_71 rfl rfl ?_
          refine G_iload hc dX4_placeOfRow_72 rfl ?_
          refine G_istore_n (lv' := [(0, .ref h_w), (1, .int e15), (2, .int z26), (3, .int z11), (4, .int u4), (5, .int z11)]) hc dX4_placeOfRow_74 rfl rfl ?_
          obtain ⟨v28, e_v28, h⟩ := sb h
          refine G_iinc (v := v28) (lv' := [(0, .ref h_w), (1, .int e15), (2, .int z26), (3, .int z11), (4, .int v28), (5, .int z11)]) hc dX4_placeOfRow_75 rfl (e_v28.trans rfl) rfl rfl ?_
          refine G_goto (tgt := 12) hc dX4_placeOfRow_78 (by decide) ?_
          refine G_lv (lv' := [(0, .ref h_w), (1, .int e15), (2, .int z26), (3, .int z11), (4, .int v28)]) (lsame_cons rfl (lsame_cons rfl (lsame_cons rfl (lsame_cons rfl (lsame_cons rfl lsame_nil))))) ?_
          exact ih9 _ _ _ _ h
        clear h
        have hL17 : ∀ (n18 : Nat) (u13 : Int32) (u14 : Int32), f_X4_placeOfRow_L35 F w_values w_row w_rowCodes w_table w_pairs w_codes w_stock w_weight w_found u2 u3 u4 z11 n18 u13 u14 = some e15 → G p l e (rmk 4) s m [.ref h_w].toArray below meth c D A 7 0 0 (QI below [.ref h_w].toArray s D A (PoI res [(h_w, .inr (4, [.ref h_w_stock, .ref h_w_weight, .ref h_w_known, .ref h_w_found, nv w_measure h_wM, .int w_values, .int w_row, .int w_rowCodes, .int w_table, .int w_length, .int w_full, .int w_pairs, .int w_codes])), (h_w_stock, .inl (cI, 16, .inl w_stock)), (h_w_weight, .inl (cI, 16, .inl w_weight)), (h_w_known, .inl (cI, 577, .inl w_known)), (h_w_found, .inl (cI, 6347, .inl w_found)), (h_wM, .inr (0, [.int wM_which, .int wM_x, .int wM_y, .int wM_row, .int wM_table]))])) [(h_w, .inr (4, [.ref h_w_stock, .ref h_w_weight, .ref h_w_known, .ref h_w_found, nv w_measure h_wM, .int w_values, .int w_row, .int w_rowCodes, .int w_table, .int w_length, .int w_full, .int w_pairs, .int w_codes])), (h_w_stock, .inl (cI, 16, .inl w_stock)), (h_w_weight, .inl (cI, 16, .inl w_weight)), (h_w_known, .inl (cI, 577, .inl w_known)), (h_w_found, .inl (cI, 6347, .inl w_found)), (h_wM, .inr (0, [.int wM_which, .int wM_x, .int wM_y, .int wM_row, .int wM_table]))] [(0, .ref h_w), (1, .int u13), (2, .int u2), (3, .int u3), (4, .int u4), (5, .int z11), (6, .int u14)] 35 [] := by
          intro n18
          induction n18 with
          | zero =>
            intro u13 u14 h
            exact nz h
          | succ n18 ih19 =>
            intro u13 u14 h
            rw [f_X4_placeOfRow_L35] at h
            refine G_iload hc dX4_placeOfRow_35 rfl ?_
            refine G_iload hc dX4_placeOfRow_37 rfl ?_
            refine G_icmp_ge (tgt := 61) hc dX4_placeOfRow_39 (by decide) (fun c25 => ?_) (fun c25 => ?_)
            · have h := ip h c25
              have h := Option.some.inj h
              subst h
              refine G_lv (lv' := [(0, .ref h_w), (1, .int u13), (2, .int u2), (3, .int u3), (4, .int u4), (5, .int z11)]) (lsame_cons rfl (lsame_cons rfl (lsame_cons rfl (lsame_cons rfl (lsame_cons rfl (lsame_cons rfl lsame_nil)))))) ?_
              exact hK20
            · have h := inn h c25
              refine G_iload_n hc dX4_placeOfRow_42 rfl ?_
              refine G_aload_n hc dX4_placeOfRow_43 rfl ?_
              refine G_iload_n hc dX4_placeOfRow_44 rfl ?_
              refine G_iload_n hc dX4_placeOfRow_45 rfl ?_
              refine G_iload hc dX4_placeOfRow_46 rfl ?_
              refine G_iload hc dX4_placeOfRow_48 rfl ?_
              obtain ⟨z21, hu22, h⟩ := ob h
              refine G_callVI (ws2 := [(h_w, .inr (4, [.ref h_w_stock, .ref h_w_weight, .ref h_w_known, .ref h_w_found, nv w_measure h_wM, .int w_values, .int w_row, .int w_rowCodes, .int w_table, .int w_length, .int w_full, .int w_pairs, .int w_codes])), (h_w_stock, .inl (cI, 16, .inl w_stock)), (h_w_weight, .inl (cI, 16, .inl w_weight)), (h_w_known, .inl (cI, 577, .inl w_known)), (h_w_found, .inl (cI, 6347, .inl w_found)), (h_wM, .inr (0, [.int wM_which, .int wM_x, .int wM_y, .int wM_row, .int wM_table]))]) hc m_X4_144 (c_X4_continued l D cI cS X F h_w h_w_stock h_w_weight h_w_known h_w_found h_wM w_measure w_values w_row w_rowCodes w_table w_length w_full w_pairs w_codes w_stock w_weight w_known w_found wM_which wM_x wM_y wM_row wM_table u2 u3 u4 u14 hu22) 0 [0, 1, 2, 3, 4, 5] rfl rfl (rmok_of (Nat.le_of_ble_eq_true rfl)) ⟨Nat.zero_le _, Nat.zero_le _⟩ rfl rfl rfl rfl rfl ⟨rfl, rfl, rfl⟩ dX4_placeOfRow_50 ?_
              refine G_iadd hc dX4_placeOfRow_53 ?_
              obtain ⟨v23, e_v23, h⟩ := sb h
              refine G_top e_v23 ?_
              refine G_istore_n (lv' := [(0, .ref h_w), (1, .int v23), (2, .int u2), (3, .int u3), (4, .int u4), (5, .int z11), (6, .int u14)]) hc dX4_placeOfRow_54 rfl rfl ?_
              obtain ⟨v24, e_v24, h⟩ := sb h
              refine G_iinc (v := v24) (lv' := [(0, .ref h_w), (1, .int v23), (2, .int u2), (3, .int u3), (4, .int u4), (5, .int z11), (6, .int v24)]) hc dX4_placeOfRow_55 rfl (e_v24.trans rfl) rfl rfl ?_
              refine G_goto (tgt := 35) hc dX4_placeOfRow_58 (by decide) ?_
              refine G_lv (lv' := [(0, .ref h_w), (1, .int v23), (2, .int u2), (3, .int u3), (4, .int u4), (5, .int z11), (6, .int v24)]) (lsame_cons rfl (lsame_cons rfl (lsame_cons rfl (lsame_cons rfl (lsame_cons rfl (lsame_cons rfl (lsame_cons rfl lsame_nil))))))) ?_
              exact ih19 _ _ h
        refine G_lv (lv' := [(0, .ref h_w), (1, .int u1), (2, .int u2), (3, .int u3), (4, .int u4), (5, .int z11), (6, .int (0 : Int32))]) (lsame_cons rfl (lsame_cons rfl (lsame_cons rfl (lsame_cons rfl (lsame_cons rfl (lsame_cons rfl (lsame_cons rfl lsame_nil))))))) ?_
        exact hL17 F _ _ hl16
  refine G_lv (lv' := [(0, .ref h_w), (1, .int (0 : Int32)), (2, .int w_full), (3, .int (0 : Int32)), (4, .int (0 : Int32))]) (lsame_cons rfl (lsame_cons rfl (lsame_cons rfl (lsame_cons rfl (lsame_cons rfl lsame_nil))))) ?_
  exact hL7 F _ _ _ _ hl6
set_option maxHeartbeats 4000000 in
set_option maxRecDepth 100000 in
theorem c_X5_placeOf (l : Launch) (D : va_G) (cI cS : ClassId) (X : XP) (F : Nat) (h_x h_x_now h_x_now_book h_x_text h_x_text_signs h_x_trial h_x_trial_state h_x_trial_state_book h_x_ways h_x_ways_stock h_x_ways_weight h_x_ways_known h_x_ways_found h_x_measured h_x_pairCounts h_past : Nat) (x_pastStates : Int32) (x_now_row : Int32) (x_now_table : Int32) (x_now_kept : Int32) (x_now_book : Nat → Int32) (x_text_length : Int32) (x_text_word : Int32) (x_text_kind : Int32) (x_text_number : Int32) (x_text_row : Int32) (x_text_reached : Int32) (x_text_broken : Int32) (x_text_signs : Nat → Int32) (x_trial_orders : Int32) (x_trial_position : Int32) (x_trial_reason : Int32) (x_trial_cause : Int32) (x_trial_state_row : Int32) (x_trial_state_table : Int32) (x_trial_state_kept : Int32) (x_trial_state_book : Nat → Int32) (x_ways_measure : Bool) (x_ways_values : Int32) (x_ways_row : Int32) (x_ways_rowCodes : Int32) (x_ways_table : Int32) (x_ways_length : Int32) (x_ways_full : Int32) (x_ways_pairs : Int32) (x_ways_codes : Int32) (x_ways_stock : Nat → Int32) (x_ways_weight : Nat → Int32) (x_ways_known : Nat → Int32) (x_ways_found : Nat → Int32) (x_measured_which : Int32) (x_measured_x : Int32) (x_measured_y : Int32) (x_measured_row : Int32) (x_measured_table : Int32) (x_pairCounts : Nat → Int32) (a1 : Int32) {res : Int32 × Bool × Int32 × Int32 × Int32 × Int32 × Int32 × Int32 × Int32 × Int32 × (Nat → Int32) × (Nat → Int32) × (Nat → Int32) × (Nat → Int32)} (h : f_X5_placeOf F x_now_row x_now_table x_ways_measure x_ways_values x_ways_row x_ways_rowCodes x_ways_table x_ways_length x_ways_full x_ways_pairs x_ways_codes x_ways_stock x_ways_weight x_ways_known x_ways_found x_measured_which x_measured_x x_measured_y x_measured_row x_measured_table a1 = some res) : CtI l D cI cS X yX5_placeOf cX5_placeOf 2 (some .int) 18 [.ref h_x, .int a1] [(h_x, .inr (5, [.ref h_x_now, .ref h_past, .int x_pastStates, .ref h_x_text, .ref h_x_trial, .ref h_x_ways, .ref h_x_measured, .ref h_x_pairCounts])), (h_x_now, .inr (1, [.int x_now_row, .int x_now_table, .int x_now_kept, .ref h_x_now_book])), (h_x_now_book, .inl (cI, 8, .inl x_now_book)), (h_x_text, .inr (2, [.ref h_x_text_signs, .int x_text_length, .int x_text_word, .int x_text_kind, .int x_text_number, .int x_text_row, .int x_text_reached, .int x_text_broken])), (h_x_text_signs, .inl (cI, 60, .inl x_text_signs)), (h_x_trial, .inr (3, [.ref h_x_trial_state, .int x_trial_orders, .int x_trial_position, .int x_trial_reason, .int x_trial_cause])), (h_x_trial_state, .inr (1, [.int x_trial_state_row, .int x_trial_state_table, .int x_trial_state_kept, .ref h_x_trial_state_book])), (h_x_trial_state_book, .inl (cI, 8, .inl x_trial_state_book)), (h_x_ways, .inr (4, [.ref h_x_ways_stock, .ref h_x_ways_weight, .ref h_x_ways_known, .ref h_x_ways_found, nv x_ways_measure h_x_measured, .int x_ways_values, .int x_ways_row, .int x_ways_rowCodes, .int x_ways_table, .int x_ways_length, .int x_ways_full, .int x_ways_pairs, .int x_ways_codes])), (h_x_ways_stock, .inl (cI, 16, .inl x_ways_stock)), (h_x_ways_weight, .inl (cI, 16, .inl x_ways_weight)), (h_x_ways_known, .inl (cI, 577, .inl x_ways_known)), (h_x_ways_found, .inl (cI, 6347, .inl x_ways_found)), (h_x_measured, .inr (0, [.int x_measured_which, .int x_measured_x, .int x_measured_y, .int x_measured_row, .int x_measured_table])), (h_x_pairCounts, .inl (cI, 16, .inl x_pairCounts))] (PoI res.1 [(h_x, .inr (5, [.ref h_x_now, .ref h_past, .int x_pastStates, .ref h_x_text, .ref h_x_trial, .ref h_x_ways, .ref h_x_measured, .ref h_x_pairCounts])), (h_x_now, .inr (1, [.int x_now_row, .int x_now_table, .int x_now_kept, .ref h_x_now_book])), (h_x_now_book, .inl (cI, 8, .inl x_now_book)), (h_x_text, .inr (2, [.ref h_x_text_signs, .int x_text_length, .int x_text_word, .int x_text_kind, .int x_text_number, .int x_text_row, .int x_text_reached, .int x_text_broken])), (h_x_text_signs, .inl (cI, 60, .inl x_text_signs)), (h_x_trial, .inr (3, [.ref h_x_trial_state, .int x_trial_orders, .int x_trial_position, .int x_trial_reason, .int x_trial_cause])), (h_x_trial_state, .inr (1, [.int x_trial_state_row, .int x_trial_state_table, .int x_trial_state_kept, .ref h_x_trial_state_book])), (h_x_trial_state_book, .inl (cI, 8, .inl x_trial_state_book)), (h_x_ways, .inr (4, [.ref h_x_ways_stock, .ref h_x_ways_weight, .ref h_x_ways_known, .ref h_x_ways_found, nv res.2.1 h_x_measured, .int res.2.2.1, .int res.2.2.2.1, .int res.2.2.2.2.1, .int res.2.2.2.2.2.1, .int res.2.2.2.2.2.2.1, .int res.2.2.2.2.2.2.2.1, .int res.2.2.2.2.2.2.2.2.1, .int res.2.2.2.2.2.2.2.2.2.1])), (h_x_ways_stock, .inl (cI, 16, .inl res.2.2.2.2.2.2.2.2.2.2.1)), (h_x_ways_weight, .inl (cI, 16, .inl res.2.2.2.2.2.2.2.2.2.2.2.1)), (h_x_ways_known, .inl (cI, 577, .inl res.2.2.2.2.2.2.2.2.2.2.2.2.1)), (h_x_ways_found, .inl (cI, 6347, .inl res.2.2.2.2.2.2.2.2.2.2.2.2.2)), (h_x_measured, .inr (0, [.int x_measured_which, .int x_measured_x, .int x_measured_y, .int x_measured_row, .int x_measured_table])), (h_x_pairCounts, .inl (cI, 16, .inl x_pairCounts))]) := by
  refine CtI.of (by decide +kernel) rfl ?_
  intro p e s m below meth c A hc
  refine G_lv (lv' := [(0, .ref h_x), (1, .int a1)]) (lsame_cons rfl (lsame_cons rfl lsame_nil)) ?_
  unfold f_X5_placeOf at h
  refine G_iload_n hc dX5_placeOf_0 rfl ?_
  refine G_iconst (v := 3) hc dX5_placeOf_1 (by decide) ?_
  obtain ⟨z1, hu2, h⟩ := ob h
  refine G_callSI (ws2 := [(h_x, .inr (5, [.ref h_x_now, .ref h_past, .int x_pastStates, .ref h_x_text, .ref h_x_trial, .ref h_x_ways, .ref h_x_measured, .ref h_x_pairCounts])), (h_x_now, .inr (1, [.int x_now_row, .int x_now_table, .int x_now_kept, .ref h_x_now_book])), (h_x_now_book, .inl (cI, 8, .inl x_now_book)), (h_x_text, .inr (2, [.ref h_x_text_signs, .int x_text_length, .int x_text_word, .int x_text_kind, .int x_text_number, .int x_text_row, .int x_text_reached, .int x_text_broken])), (h_x_text_signs, .inl (cI, 60, .inl x_text_signs)), (h_x_trial, .inr (3, [.ref h_x_trial_state, .int x_trial_orders, .int x_trial_position, .int x_trial_reason, .int x_trial_cause])), (h_x_trial_state, .inr (1, [.int x_trial_state_row, .int x_trial_state_table, .int x_trial_state_kept, .ref h_x_trial_state_book])), (h_x_trial_state_book, .inl (cI, 8, .inl x_trial_state_book)), (h_x_ways, .inr (4, [.ref h_x_ways_stock, .ref h_x_ways_weight, .ref h_x_ways_known, .ref h_x_ways_found, nv x_ways_measure h_x_measured, .int x_ways_values, .int x_ways_row, .int x_ways_rowCodes, .int x_ways_table, .int x_ways_length, .int x_ways_full, .int x_ways_pairs, .int x_ways_codes])), (h_x_ways_stock, .inl (cI, 16, .inl x_ways_stock)), (h_x_ways_weight, .inl (cI, 16, .inl x_ways_weight)), (h_x_ways_known, .inl (cI, 577, .inl x_ways_known)), (h_x_ways_found, .inl (cI, 6347, .inl x_ways_found)), (h_x_measured, .inr (0, [.int x_measured_which, .int x_measured_x, .int x_measured_y, .int x_measured_row, .int x_measured_table])), (h_x_pairCounts, .inl (cI, 16, .inl x_pairCounts))]) hc m_X5_52 (c_X5_within l D cI cS X F a1 (3 : Int32) hu2) [] (rmok_of (Nat.le_of_ble_eq_true rfl)) ⟨Nat.zero_le _, Nat.zero_le _⟩ rfl rfl rfl rfl rfl ⟨rfl, rfl, rfl⟩ dX5_placeOf_2 ?_
  refine G_if_ne (tgt := 11) hc dX5_placeOf_5 (by decide) (fun c7 => ?_) (fun c7 => ?_)
  · have h := inn h c7
    refine G_aload_n hc dX5_placeOf_11 rfl ?_
    refine G_get hc f_X5_37 0 rfl rfl dX5_placeOf_12 ?_
    refine G_aload_n hc dX5_placeOf_15 rfl ?_
    refine G_get hc f_X5_10 0 rfl rfl dX5_placeOf_16 ?_
    refine G_iload_n hc dX5_placeOf_19 rfl ?_
    obtain ⟨z3, hu4, h⟩ := ob h
    refine G_callVV (ws2 := [(h_x, .inr (5, [.ref h_x_now, .ref h_past, .int x_pastStates, .ref h_x_text, .ref h_x_trial, .ref h_x_ways, .ref h_x_measured, .ref h_x_pairCounts])), (h_x_now, .inr (1, [.int x_now_row, .int x_now_table, .int x_now_kept, .ref h_x_now_book])), (h_x_now_book, .inl (cI, 8, .inl x_now_book)), (h_x_text, .inr (2, [.ref h_x_text_signs, .int x_text_length, .int x_text_word, .int x_text_kind, .int x_text_number, .int x_text_row, .int x_text_reached, .int x_text_broken])), (h_x_text_signs, .inl (cI, 60, .inl x_text_signs)), (h_x_trial, .inr (3, [.ref h_x_trial_state, .int x_trial_orders, .int x_trial_position, .int x_trial_reason, .int x_trial_cause])), (h_x_trial_state, .inr (1, [.int x_trial_state_row, .int x_trial_state_table, .int x_trial_state_kept, .ref h_x_trial_state_book])), (h_x_trial_state_book, .inl (cI, 8, .inl x_trial_state_book)), (h_x_ways, .inr (4, [.ref h_x_ways_stock, .ref h_x_ways_weight, .ref h_x_ways_known, .ref h_x_ways_found, nv z3.1 h_x_measured, .int z3.2.1, .int z3.2.2.1, .int z3.2.2.2.1, .int z3.2.2.2.2.1, .int z3.2.2.2.2.2.1, .int z3.2.2.2.2.2.2.1, .int z3.2.2.2.2.2.2.2.1, .int z3.2.2.2.2.2.2.2.2.1])), (h_x_ways_stock, .inl (cI, 16, .inl z3.2.2.2.2.2.2.2.2.2.1)), (h_x_ways_weight, .inl (cI, 16, .inl z3.2.2.2.2.2.2.2.2.2.2.1)), (h_x_ways_known, .inl (cI, 577, .inl z3.2.2.2.2.2.2.2.2.2.2.2.1)), (h_x_ways_found, .inl (cI, 6347, .inl z3.2.2.2.2.2.2.2.2.2.2.2.2)), (h_x_measured, .inr (0, [.int x_measured_which, .int x_measured_x, .int x_measured_y, .int x_measured_row, .int x_measured_table])), (h_x_pairCounts, .inl (cI, 16, .inl x_pairCounts))]) hc m_X5_104 (c_X4_open l D cI cS X F h_x_ways h_x_ways_stock h_x_ways_weight h_x_ways_known h_x_ways_found h_x_measured h_x_now h_x_now_book x_ways_measure x_ways_values x_ways_row x_ways_rowCodes x_ways_table x_ways_length x_ways_full x_ways_pairs x_ways_codes x_ways_stock x_ways_weight x_ways_known x_ways_found x_measured_which x_measured_x x_measured_y x_measured_row x_measured_table x_now_row x_now_table x_now_kept x_now_book a1 hu4) 8 [8, 9, 10, 11, 12, 13, 1, 2] rfl rfl (rmok_of (Nat.le_of_ble_eq_true rfl)) ⟨Nat.zero_le _, Nat.zero_le _⟩ rfl rfl rfl rfl rfl ⟨rfl, rfl, rfl⟩ dX5_placeOf_20 ?_
    refine G_aload_n hc dX5_placeOf_23 rfl ?_
    refine G_get hc f_X5_37 0 rfl rfl dX5_placeOf_24 ?_
    obtain ⟨z5, hu6, h⟩ := ob h
    refine G_callVI (ws2 := [(h_x, .inr (5, [.ref h_x_now, .ref h_past, .int x_pastStates, .ref h_x_text, .ref h_x_trial, .ref h_x_ways, .ref h_x_measured, .ref h_x_pairCounts])), (h_x_now, .inr (1, [.int x_now_row, .int x_now_table, .int x_now_kept, .ref h_x_now_book])), (h_x_now_book, .inl (cI, 8, .inl x_now_book)), (h_x_text, .inr (2, [.ref h_x_text_signs, .int x_text_length, .int x_text_word, .int x_text_kind, .int x_text_number, .int x_text_row, .int x_text_reached, .int x_text_broken])), (h_x_text_signs, .inl (cI, 60, .inl x_text_signs)), (h_x_trial, .inr (3, [.ref h_x_trial_state, .int x_trial_orders, .int x_trial_position, .int x_trial_reason, .int x_trial_cause])), (h_x_trial_state, .inr (1, [.int x_trial_state_row, .int x_trial_state_table, .int x_trial_state_kept, .ref h_x_trial_state_book])), (h_x_trial_state_book, .inl (cI, 8, .inl x_trial_state_book)), (h_x_ways, .inr (4, [.ref h_x_ways_stock, .ref h_x_ways_weight, .ref h_x_ways_known, .ref h_x_ways_found, nv z3.1 h_x_measured, .int z3.2.1, .int z3.2.2.1, .int z3.2.2.2.1, .int z3.2.2.2.2.1, .int z3.2.2.2.2.2.1, .int z3.2.2.2.2.2.2.1, .int z3.2.2.2.2.2.2.2.1, .int z3.2.2.2.2.2.2.2.2.1])), (h_x_ways_stock, .inl (cI, 16, .inl z3.2.2.2.2.2.2.2.2.2.1)), (h_x_ways_weight, .inl (cI, 16, .inl z3.2.2.2.2.2.2.2.2.2.2.1)), (h_x_ways_known, .inl (cI, 577, .inl z3.2.2.2.2.2.2.2.2.2.2.2.1)), (h_x_ways_found, .inl (cI, 6347, .inl z3.2.2.2.2.2.2.2.2.2.2.2.2)), (h_x_measured, .inr (0, [.int x_measured_which, .int x_measured_x, .int x_measured_y, .int x_measured_row, .int x_measured_table])), (h_x_pairCounts, .inl (cI, 16, .inl x_pairCounts))]) hc m_X5_112 (c_X4_placeOfRow l D cI cS X F h_x_ways h_x_ways_stock h_x_ways_weight h_x_ways_known h_x_ways_found h_x_measured z3.1 z3.2.1 z3.2.2.1 z3.2.2.2.1 z3.2.2.2.2.1 z3.2.2.2.2.2.1 z3.2.2.2.2.2.2.1 z3.2.2.2.2.2.2.2.1 z3.2.2.2.2.2.2.2.2.1 z3.2.2.2.2.2.2.2.2.2.1 z3.2.2.2.2.2.2.2.2.2.2.1 z3.2.2.2.2.2.2.2.2.2.2.2.1 z3.2.2.2.2.2.2.2.2.2.2.2.2 x_measured_which x_measured_x x_measured_y x_measured_row x_measured_table hu6) 8 [8, 9, 10, 11, 12, 13] rfl rfl (rmok_of (Nat.le_of_ble_eq_true rfl)) ⟨Nat.zero_le _, Nat.zero_le _⟩ rfl rfl rfl rfl rfl ⟨rfl, rfl, rfl⟩ dX5_placeOf_27 ?_
    have h := Option.some.inj h
    subst h
    exact G_ireturn hc ⟨rfl, rfl⟩ dX5_placeOf_30
  · have h := ip h c7
    refine G_ldc (v := -1000001) hc k_X5_56 dX5_placeOf_8 ?_
    have h := Option.some.inj h
    subst h
    exact G_ireturn hc ⟨rfl, rfl⟩ dX5_placeOf_10
set_option maxHeartbeats 4000000 in
set_option maxRecDepth 100000 in
theorem c_X4_rowAt (l : Launch) (D : va_G) (cI cS : ClassId) (X : XP) (F : Nat) (h_w h_w_stock h_w_weight h_w_known h_w_found h_wM : Nat) (w_measure : Bool) (w_values : Int32) (w_row : Int32) (w_rowCodes : Int32) (w_table : Int32) (w_length : Int32) (w_full : Int32) (w_pairs : Int32) (w_codes : Int32) (w_stock : Nat → Int32) (w_weight : Nat → Int32) (w_known : Nat → Int32) (w_found : Nat → Int32) (wM_which : Int32) (wM_x : Int32) (wM_y : Int32) (wM_row : Int32) (wM_table : Int32) (a1 : Int32) {res : Int32} (h : f_X4_rowAt F w_values w_row w_rowCodes w_table w_length w_full w_pairs w_codes w_stock w_weight w_found a1 = some res) : CtI l D cI cS X yX4_rowAt cX4_rowAt 9 (some .int) 4 [.ref h_w, .int a1] [(h_w, .inr (4, [.ref h_w_stock, .ref h_w_weight, .ref h_w_known, .ref h_w_found, nv w_measure h_wM, .int w_values, .int w_row, .int w_rowCodes, .int w_table, .int w_length, .int w_full, .int w_pairs, .int w_codes])), (h_w_stock, .inl (cI, 16, .inl w_stock)), (h_w_weight, .inl (cI, 16, .inl w_weight)), (h_w_known, .inl (cI, 577, .inl w_known)), (h_w_found, .inl (cI, 6347, .inl w_found)), (h_wM, .inr (0, [.int wM_which, .int wM_x, .int wM_y, .int wM_row, .int wM_table]))] (PoI res [(h_w, .inr (4, [.ref h_w_stock, .ref h_w_weight, .ref h_w_known, .ref h_w_found, nv w_measure h_wM, .int w_values, .int w_row, .int w_rowCodes, .int w_table, .int w_length, .int w_full, .int w_pairs, .int w_codes])), (h_w_stock, .inl (cI, 16, .inl w_stock)), (h_w_weight, .inl (cI, 16, .inl w_weight)), (h_w_known, .inl (cI, 577, .inl w_known)), (h_w_found, .inl (cI, 6347, .inl w_found)), (h_wM, .inr (0, [.int wM_which, .int wM_x, .int wM_y, .int wM_row, .int wM_table]))]) := by
  refine CtI.of (by decide +kernel) rfl ?_
  intro p e s m below meth c A hc
  refine G_lv (lv' := [(0, .ref h_w), (1, .int a1)]) (lsame_cons rfl (lsame_cons rfl lsame_nil)) ?_
  unfold f_X4_rowAt at h
  refine G_iconst (v := 0) hc dX4_rowAt_0 (by decide) ?_
  refine G_istore_n (lv' := [(0, .ref h_w), (1, .int a1), (2, .int (0 : Int32))]) hc dX4_rowAt_1 rfl rfl ?_
  refine G_iload_n hc dX4_rowAt_2 rfl ?_
  refine G_istore_n (lv' := [(0, .ref h_w), (1, .int a1), (2, .int (0 : Int32)), (3, .int a1)]) hc dX4_rowAt_3 rfl rfl ?_
  refine G_aload_n hc dX4_rowAt_4 rfl ?_
  refine G_get hc f_X4_46 0 rfl rfl dX4_rowAt_5 ?_
  refine G_istore (lv' := [(0, .ref h_w), (1, .int a1), (2, .int (0 : Int32)), (3, .int a1), (4, .int w_full)]) hc dX4_rowAt_8 rfl rfl ?_
  refine G_iconst (v := 0) hc dX4_rowAt_10 (by decide) ?_
  refine G_istore (lv' := [(0, .ref h_w), (1, .int a1), (2, .int (0 : Int32)), (3, .int a1), (4, .int w_full), (5, .int (0 : Int32))]) hc dX4_rowAt_11 rfl rfl ?_
  refine G_iconst (v := 0) hc dX4_rowAt_13 (by decide) ?_
  refine G_istore (lv' := [(0, .ref h_w), (1, .int a1), (2, .int (0 : Int32)), (3, .int a1), (4, .int w_full), (5, .int (0 : Int32)), (6, .int (0 : Int32))]) hc dX4_rowAt_14 rfl rfl ?_
  obtain ⟨e6, hl7, h⟩ := ob h
  have hK11 : G p l e (rmk 4) s m [.ref h_w, .int a1].toArray below meth c D A 9 0 0 (QI below [.ref h_w, .int a1].toArray s D A (PoI res [(h_w, .inr (4, [.ref h_w_stock, .ref h_w_weight, .ref h_w_known, .ref h_w_found, nv w_measure h_wM, .int w_values, .int w_row, .int w_rowCodes, .int w_table, .int w_length, .int w_full, .int w_pairs, .int w_codes])), (h_w_stock, .inl (cI, 16, .inl w_stock)), (h_w_weight, .inl (cI, 16, .inl w_weight)), (h_w_known, .inl (cI, 577, .inl w_known)), (h_w_found, .inl (cI, 6347, .inl w_found)), (h_wM, .inr (0, [.int wM_which, .int wM_x, .int wM_y, .int wM_row, .int wM_table]))])) [(h_w, .inr (4, [.ref h_w_stock, .ref h_w_weight, .ref h_w_known, .ref h_w_found, nv w_measure h_wM, .int w_values, .int w_row, .int w_rowCodes, .int w_table, .int w_length, .int w_full, .int w_pairs, .int w_codes])), (h_w_stock, .inl (cI, 16, .inl w_stock)), (h_w_weight, .inl (cI, 16, .inl w_weight)), (h_w_known, .inl (cI, 577, .inl w_known)), (h_w_found, .inl (cI, 6347, .inl w_found)), (h_wM, .inr (0, [.int wM_which, .int wM_x, .int wM_y, .int wM_row, .int wM_table]))] [(2, .int e6)] 99 [] := by
    refine G_iload_n hc dX4_rowAt_99 rfl ?_
    have h := Option.some.inj h
    subst h
    exact G_ireturn hc ⟨rfl, rfl⟩ dX4_rowAt_100
  clear h
  have hL8 : ∀ (n9 : Nat) (u1 : Int32) (u2 : Int32) (u3 : Int32) (u4 : Int32) (u5 : Int32), f_X4_rowAt_L16 F w_values w_row w_rowCodes w_table w_length w_pairs w_codes w_stock w_weight w_found n9 u1 u2 u3 u4 u5 = some e6 → G p l e (rmk 4) s m [.ref h_w, .int a1].toArray below meth c D A 9 0 0 (QI below [.ref h_w, .int a1].toArray s D A (PoI res [(h_w, .inr (4, [.ref h_w_stock, .ref h_w_weight, .ref h_w_known, .ref h_w_found, nv w_measure h_wM, .int w_values, .int w_row, .int w_rowCodes, .int w_table, .int w_length, .int w_full, .int w_pairs, .int w_codes])), (h_w_stock, .inl (cI, 16, .inl w_stock)), (h_w_weight, .inl (cI, 16, .inl w_weight)), (h_w_known, .inl (cI, 577, .inl w_known)), (h_w_found, .inl (cI, 6347, .inl w_found)), (h_wM, .inr (0, [.int wM_which, .int wM_x, .int wM_y, .int wM_row, .int wM_table]))])) [(h_w, .inr (4, [.ref h_w_stock, .ref h_w_weight, .ref h_w_known, .ref h_w_found, nv w_measure h_wM, .int w_values, .int w_row, .int w_rowCodes, .int w_table, .int w_length, .int w_full, .int w_pairs, .int w_codes])), (h_w_stock, .inl (cI, 16, .inl w_stock)), (h_w_weight, .inl (cI, 16, .inl w_weight)), (h_w_known, .inl (cI, 577, .inl w_known)), (h_w_found, .inl (cI, 6347, .inl w_found)), (h_wM, .inr (0, [.int wM_which, .int wM_x, .int wM_y, .int wM_row, .int wM_table]))] [(0, .ref h_w), (2, .int u1), (3, .int u2), (4, .int u3), (5, .int u4), (6, .int u5)] 16 [] := by
    intro n9
    induction n9 with
    | zero =>
      intro u1 u2 u3 u4 u5 h
      exact nz h
    | succ n9 ih10 =>
      intro u1 u2 u3 u4 u5 h
      rw [f_X4_rowAt_L16] at h
      refine G_iload hc dX4_rowAt_16 rfl ?_
      refine G_aload_n hc dX4_rowAt_18 rfl ?_
      refine G_get hc f_X4_68 0 rfl rfl dX4_rowAt_19 ?_
      refine G_icmp_ge (tgt := 99) hc dX4_rowAt_22 (by decide) (fun c39 => ?_) (fun c39 => ?_)
      · have h := ip h c39
        have h := Option.some.inj h
        subst h
        refine G_lv (lv' := [(2, .int u1)]) (lsame_cons rfl lsame_nil) ?_
        exact hK11
      · have h := inn h c39
        refine G_iconst (v := 0) hc dX4_rowAt_25 (by decide) ?_
        refine G_istore (lv' := [(0, .ref h_w), (2, .int u1), (3, .int u2), (4, .int u3), (5, .int u4), (6, .int u5), (7, .int (0 : Int32))]) hc dX4_rowAt_26 rfl rfl ?_
        obtain ⟨e14, hl15, h⟩ := ob h
        have hK19 : ∀ ax21, e14 = (Sum.inl ax21) → G p l e (rmk 4) s m [.ref h_w, .int a1].toArray below meth c D A 9 0 0 (QI below [.ref h_w, .int a1].toArray s D A (PoI res [(h_w, .inr (4, [.ref h_w_stock, .ref h_w_weight, .ref h_w_known, .ref h_w_found, nv w_measure h_wM, .int w_values, .int w_row, .int w_rowCodes, .int w_table, .int w_length, .int w_full, .int w_pairs, .int w_codes])), (h_w_stock, .inl (cI, 16, .inl w_stock)), (h_w_weight, .inl (cI, 16, .inl w_weight)), (h_w_known, .inl (cI, 577, .inl w_known)), (h_w_found, .inl (cI, 6347, .inl w_found)), (h_wM, .inr (0, [.int wM_which, .int wM_x, .int wM_y, .int wM_row, .int wM_table]))])) [(h_w, .inr (4, [.ref h_w_stock, .ref h_w_weight, .ref h_w_known, .ref h_w_found, nv w_measure h_wM, .int w_values, .int w_row, .int w_rowCodes, .int w_table, .int w_length, .int w_full, .int w_pairs, .int w_codes])), (h_w_stock, .inl (cI, 16, .inl w_stock)), (h_w_weight, .inl (cI, 16, .inl w_weight)), (h_w_known, .inl (cI, 577, .inl w_known)), (h_w_found, .inl (cI, 6347, .inl w_found)), (h_wM, .inr (0, [.int wM_which, .int wM_x, .int wM_y, .int wM_row, .int wM_table]))] [(0, .ref h_w), (2, .int u1), (3, .int ax21.1), (4, .int u3), (5, .int u4), (6, .int u5), (7, .int ax21.2)] 54 [] := by
          intro ax21 he
          subst he
          simp only [Sum.elim_inl, Sum.elim_inr] at h
          refine G_goto (tgt := 68) hc dX4_rowAt_54 (by decide) ?_
          refine G_iload_n hc dX4_rowAt_68 rfl ?_
          refine G_iload hc dX4_rowAt_69 rfl ?_
          obtain ⟨z29, hu30, h⟩ := ob h
          refine G_callNI (ws2 := [(h_w, .inr (4, [.ref h_w_stock, .ref h_w_weight, .ref h_w_known, .ref h_w_found, nv w_measure h_wM, .int w_values, .int w_row, .int w_rowCodes, .int w_table, .int w_length, .int w_full, .int w_pairs, .int w_codes])), (h_w_stock, .inl (cI, 16, .inl w_stock)), (h_w_weight, .inl (cI, 16, .inl w_weight)), (h_w_known, .inl (cI, 577, .inl w_known)), (h_w_found, .inl (cI, 6347, .inl w_found)), (h_wM, .inr (0, [.int wM_which, .int wM_x, .int wM_y, .int wM_row, .int wM_table]))]) hc m_X4_87 (c_X5_longer l D cI cS X F u1 ax21.2 hu30) [] (rmok_of (Nat.le_of_ble_eq_true rfl)) ⟨Nat.zero_le _, Nat.zero_le _⟩ rfl rfl rfl rfl rfl ⟨rfl, rfl, rfl⟩ dX4_rowAt_71 ?_
          refine G_istore_n (lv' := [(0, .ref h_w), (2, .int z29), (3, .int ax21.1), (4, .int u3), (5, .int u4), (6, .int u5), (7, .int ax21.2)]) hc dX4_rowAt_74 rfl rfl ?_
          refine G_aload_n hc dX4_rowAt_75 rfl ?_
          refine G_iload hc dX4_rowAt_76 rfl ?_
          refine G_iload hc dX4_rowAt_78 rfl ?_
          refine G_iload hc dX4_rowAt_80 rfl ?_
          refine G_iload hc dX4_rowAt_82 rfl ?_
          obtain ⟨z31, hu32, h⟩ := ob h
          refine G_callVI (ws2 := [(h_w, .inr (4, [.ref h_w_stock, .ref h_w_weight, .ref h_w_known, .ref h_w_found, nv w_measure h_wM, .int w_values, .int w_row, .int w_rowCodes, .int w_table, .int w_length, .int w_full, .int w_pairs, .int w_codes])), (h_w_stock, .inl (cI, 16, .inl w_stock)), (h_w_weight, .inl (cI, 16, .inl w_weight)), (h_w_known, .inl (cI, 577, .inl w_known)), (h_w_found, .inl (cI, 6347, .inl w_found)), (h_wM, .inr (0, [.int wM_which, .int wM_x, .int wM_y, .int wM_row, .int wM_table]))]) hc m_X4_119 (c_X4_leftAfter l D cI cS X F h_w h_w_stock h_w_weight h_w_known h_w_found h_wM w_measure w_values w_row w_rowCodes w_table w_length w_full w_pairs w_codes w_stock w_weight w_known w_found wM_which wM_x wM_y wM_row wM_table u3 u4 u5 ax21.2 hu32) 0 [0, 1, 2, 3, 4, 5] rfl rfl (rmok_of (Nat.le_of_ble_eq_true rfl)) ⟨Nat.zero_le _, Nat.zero_le _⟩ rfl rfl rfl rfl rfl ⟨rfl, rfl, rfl⟩ dX4_rowAt_84 ?_
          refine G_istore (lv' := [(0, .ref h_w), (2, .int z29), (3, .int ax21.1), (4, .int z31), (5, .int u4), (6, .int u5), (7, .int ax21.2)]) hc dX4_rowAt_87 rfl rfl ?_
          refine G_iload hc dX4_rowAt_89 rfl ?_
          refine G_istore (lv' := [(0, .ref h_w), (2, .int z29), (3, .int ax21.1), (4, .int z31), (5, .int ax21.2), (6, .int u5), (7, .int ax21.2)]) hc dX4_rowAt_91 rfl rfl ?_
          obtain ⟨v33, e_v33, h⟩ := sb h
          refine G_iinc (v := v33) (lv' := [(0, .ref h_w), (2, .int z29), (3, .int ax21.1), (4, .int z31), (5, .int ax21.2), (6, .int v33), (7, .int ax21.2)]) hc dX4_rowAt_93 rfl (e_v33.trans rfl) rfl rfl ?_
          refine G_goto (tgt := 16) hc dX4_rowAt_96 (by decide) ?_
          refine G_lv (lv' := [(0, .ref h_w), (2, .int z29), (3, .int ax21.1), (4, .int z31), (5, .int ax21.2), (6, .int v33)]) (lsame_cons rfl (lsame_cons rfl (lsame_cons rfl (lsame_cons rfl (lsame_cons rfl (lsame_cons rfl lsame_nil)))))) ?_
          exact ih10 _ _ _ _ _ h
        have hK20 : ∀ ax22, e14 = (Sum.inr ax22) → G p l e (rmk 4) s m [.ref h_w, .int a1].toArray below meth c D A 9 0 0 (QI below [.ref h_w, .int a1].toArray s D A (PoI res [(h_w, .inr (4, [.ref h_w_stock, .ref h_w_weight, .ref h_w_known, .ref h_w_found, nv w_measure h_wM, .int w_values, .int w_row, .int w_rowCodes, .int w_table, .int w_length, .int w_full, .int w_pairs, .int w_codes])), (h_w_stock, .inl (cI, 16, .inl w_stock)), (h_w_weight, .inl (cI, 16, .inl w_weight)), (h_w_known, .inl (cI, 577, .inl w_known)), (h_w_found, .inl (cI, 6347, .inl w_found)), (h_wM, .inr (0, [.int wM_which, .int wM_x, .int wM_y, .int wM_row, .int wM_table]))])) [(h_w, .inr (4, [.ref h_w_stock, .ref h_w_weight, .ref h_w_known, .ref h_w_found, nv w_measure h_wM, .int w_values, .int w_row, .int w_rowCodes, .int w_table, .int w_length, .int w_full, .int w_pairs, .int w_codes])), (h_w_stock, .inl (cI, 16, .inl w_stock)), (h_w_weight, .inl (cI, 16, .inl w_weight)), (h_w_known, .inl (cI, 577, .inl w_known)), (h_w_found, .inl (cI, 6347, .inl w_found)), (h_wM, .inr (0, [.int wM_which, .int wM_x, .int wM_y, .int wM_row, .int wM_table]))] [(0, .ref h_w), (2, .int u1), (3, .int ax22.1), (4, .int u3), (5, .int u4), (6, .int u5), (7, .int ax22.2)] 68 [] := by
          intro ax22 he
          subst he
          simp only [Sum.elim_inl, Sum.elim_inr] at h
          refine G_iload_n hc dX4_rowAt_68 rfl ?_
          refine G_iload hc dX4_rowAt_69 rfl ?_
          obtain ⟨z34, hu35, h⟩ := ob h
          refine G_callNI (ws2 := [(h_w, .inr (4, [.ref h_w_stock, .ref h_w_weight, .ref h_w_known, .ref h_w_found, nv w_measure h_wM, .int w_values, .int w_row, .int w_rowCodes, .int w_table, .int w_length, .int w_full, .int w_pairs, .int w_codes])), (h_w_stock, .inl (cI, 16, .inl w_stock)), (h_w_weight, .inl (cI, 16, .inl w_weight)), (h_w_known, .inl (cI, 577, .inl w_known)), (h_w_found, .inl (cI, 6347, .inl w_found)), (h_wM, .inr (0, [.int wM_which, .int wM_x, .int wM_y, .int wM_row, .int wM_table]))]) hc m_X4_87 (c_X5_longer l D cI cS X F u1 ax22.2 hu35) [] (rmok_of (Nat.le_of_ble_eq_true rfl)) ⟨Nat.zero_le _, Nat.zero_le _⟩ rfl rfl rfl rfl rfl ⟨rfl, rfl, rfl⟩ dX4_rowAt_71 ?_
          refine G_istore_n (lv' := [(0, .ref h_w), (2, .int z34), (3, .int ax22.1), (4, .int u3), (5, .int u4), (6, .int u5), (7, .int ax22.2)]) hc dX4_rowAt_74 rfl rfl ?_
          refine G_aload_n hc dX4_rowAt_75 rfl ?_
          refine G_iload hc dX4_rowAt_76 rfl ?_
          refine G_iload hc dX4_rowAt_78 rfl ?_
          refine G_iload hc dX4_rowAt_80 rfl ?_
          refine G_iload hc dX4_rowAt_82 rfl ?_
          obtain ⟨z36, hu37, h⟩ := ob h
          refine G_callVI (ws2 := [(h_w, .inr (4, [.ref h_w_stock, .ref h_w_weight, .ref h_w_known, .ref h_w_found, nv w_measure h_wM, .int w_values, .int w_row, .int w_rowCodes, .int w_table, .int w_length, .int w_full, .int w_pairs, .int w_codes])), (h_w_stock, .inl (cI, 16, .inl w_stock)), (h_w_weight, .inl (cI, 16, .inl w_weight)), (h_w_known, .inl (cI, 577, .inl w_known)), (h_w_found, .inl (cI, 6347, .inl w_found)), (h_wM, .inr (0, [.int wM_which, .int wM_x, .int wM_y, .int wM_row, .int wM_table]))]) hc m_X4_119 (c_X4_leftAfter l D cI cS X F h_w h_w_stock h_w_weight h_w_known h_w_found h_wM w_measure w_values w_row w_rowCodes w_table w_length w_full w_pairs w_codes w_stock w_weight w_known w_found wM_which wM_x wM_y wM_row wM_table u3 u4 u5 ax22.2 hu37) 0 [0, 1, 2, 3, 4, 5] rfl rfl (rmok_of (Nat.le_of_ble_eq_true rfl)) ⟨Nat.zero_le _, Nat.zero_le _⟩ rfl rfl rfl rfl rfl ⟨rfl, rfl, rfl⟩ dX4_rowAt_84 ?_
          refine G_istore (lv' := [(0, .ref h_w), (2, .int z34), (3, .int ax22.1), (4, .int z36), (5, .int u4), (6, .int u5), (7, .int ax22.2)]) hc dX4_rowAt_87 rfl rfl ?_
          refine G_iload hc dX4_rowAt_89 rfl ?_
          refine G_istore (lv' := [(0, .ref h_w), (2, .int z34), (3, .int ax22.1), (4, .int z36), (5, .int ax22.2), (6, .int u5), (7, .int ax22.2)]) hc dX4_rowAt_91 rfl rfl ?_
          obtain ⟨v38, e_v38, h⟩ := sb h
          refine G_iinc (v := v38) (lv' := [(0, .ref h_w), (2, .int z34), (3, .int ax22.1), (4, .int z36), (5, .int ax22.2), (6, .int v38), (7, .int ax22.2)]) hc dX4_rowAt_93 rfl (e_v38.trans rfl) rfl rfl ?_
          refine G_goto (tgt := 16) hc dX4_rowAt_96 (by decide) ?_
          refine G_lv (lv' := [(0, .ref h_w), (2, .int z34), (3, .int ax22.1), (4, .int z36), (5, .int ax22.2), (6, .int v38)]) (lsame_cons rfl (lsame_cons rfl (lsame_cons rfl (lsame_cons rfl (lsame_cons rfl (lsame_cons rfl lsame_nil)))))) ?_
          exact ih10 _ _ _ _ _ h
        clear h
        have hL16 : ∀ (n17 : Nat) (u12 : Int32) (u13 : Int32), f_X4_rowAt_L28 F w_values w_row w_rowCodes w_table w_pairs w_codes w_stock w_weight w_found u3 u4 u5 n17 u12 u13 = some e14 → G p l e (rmk 4) s m [.ref h_w, .int a1].toArray below meth c D A 9 0 0 (QI below [.ref h_w, .int a1].toArray s D A (PoI res [(h_w, .inr (4, [.ref h_w_stock, .ref h_w_weight, .ref h_w_known, .ref h_w_found, nv w_measure h_wM, .int w_values, .int w_row, .int w_rowCodes, .int w_table, .int w_length, .int w_full, .int w_pairs, .int w_codes])), (h_w_stock, .inl (cI, 16, .inl w_stock)), (h_w_weight, .inl (cI, 16, .inl w_weight)), (h_w_known, .inl (cI, 577, .inl w_known)), (h_w_found, .inl (cI, 6347, .inl w_found)), (h_wM, .inr (0, [.int wM_which, .int wM_x, .int wM_y, .int wM_row, .int wM_table]))])) [(h_w, .inr (4, [.ref h_w_stock, .ref h_w_weight, .ref h_w_known, .ref h_w_found, nv w_measure h_wM, .int w_values, .int w_row, .int w_rowCodes, .int w_table, .int w_length, .int w_full, .int w_pairs, .int w_codes])), (h_w_stock, .inl (cI, 16, .inl w_stock)), (h_w_weight, .inl (cI, 16, .inl w_weight)), (h_w_known, .inl (cI, 577, .inl w_known)), (h_w_found, .inl (cI, 6347, .inl w_found)), (h_wM, .inr (0, [.int wM_which, .int wM_x, .int wM_y, .int wM_row, .int wM_table]))] [(0, .ref h_w), (2, .int u1), (3, .int u12), (4, .int u3), (5, .int u4), (6, .int u5), (7, .int u13)] 28 [] := by
          intro n17
          induction n17 with
          | zero =>
            intro u12 u13 h
            exact nz h
          | succ n17 ih18 =>
            intro u12 u13 h
            rw [f_X4_rowAt_L28] at h
            refine G_iload hc dX4_rowAt_28 rfl ?_
            refine G_iconst (v := 3) hc dX4_rowAt_30 (by decide) ?_
            refine G_icmp_ge (tgt := 68) hc dX4_rowAt_31 (by decide) (fun c28 => ?_) (fun c28 => ?_)
            · have h := ip h c28
              have h := Option.some.inj h
              subst h
              refine G_lv (lv' := [(0, .ref h_w), (2, .int u1), (3, .int u12), (4, .int u3), (5, .int u4), (6, .int u5), (7, .int u13)]) (lsame_cons rfl (lsame_cons rfl (lsame_cons rfl (lsame_cons rfl (lsame_cons rfl (lsame_cons rfl (lsame_cons rfl lsame_nil))))))) ?_
              exact hK20 _ rfl
            · have h := inn h c28
              refine G_aload_n hc dX4_rowAt_34 rfl ?_
              refine G_iload hc dX4_rowAt_35 rfl ?_
              refine G_iload hc dX4_rowAt_37 rfl ?_
              refine G_iload hc dX4_rowAt_39 rfl ?_
              refine G_iload hc dX4_rowAt_41 rfl ?_
              obtain ⟨z23, hu24, h⟩ := ob h
              refine G_callVI (ws2 := [(h_w, .inr (4, [.ref h_w_stock, .ref h_w_weight, .ref h_w_known, .ref h_w_found, nv w_measure h_wM, .int w_values, .int w_row, .int w_rowCodes, .int w_table, .int w_length, .int w_full, .int w_pairs, .int w_codes])), (h_w_stock, .inl (cI, 16, .inl w_stock)), (h_w_weight, .inl (cI, 16, .inl w_weight)), (h_w_known, .inl (cI, 577, .inl w_known)), (h_w_found, .inl (cI, 6347, .inl w_found)), (h_wM, .inr (0, [.int wM_which, .int wM_x, .int wM_y, .int wM_row, .int wM_table]))]) hc m_X4_144 (c_X4_continued l D cI cS X F h_w h_w_stock h_w_weight h_w_known h_w_found h_wM w_measure w_values w_row w_rowCodes w_table w_length w_full w_pairs w_codes w_stock w_weight w_known w_found wM_which wM_x wM_y wM_row wM_table u3 u4 u5 u13 hu24) 0 [0, 1, 2, 3, 4, 5] rfl rfl (rmok_of (Nat.le_of_ble_eq_true rfl)) ⟨Nat.zero_le _, Nat.zero_le _⟩ rfl rfl rfl rfl rfl ⟨rfl, rfl, rfl⟩ dX4_rowAt_43 ?_
              refine G_istore (lv' := [(0, .ref h_w), (2, .int u1), (3, .int u12), (4, .int u3), (5, .int u4), (6, .int u5), (7, .int u13), (8, .int z23)]) hc dX4_rowAt_46 rfl rfl ?_
              refine G_iload_n hc dX4_rowAt_48 rfl ?_
              refine G_iload hc dX4_rowAt_49 rfl ?_
              refine G_icmp_ge (tgt := 57) hc dX4_rowAt_51 (by decide) (fun c27 => ?_) (fun c27 => ?_)
              · have h := ip h c27
                refine G_iload_n hc dX4_rowAt_57 rfl ?_
                refine G_iload hc dX4_rowAt_58 rfl ?_
                refine G_isub hc dX4_rowAt_60 ?_
                obtain ⟨v25, e_v25, h⟩ := sb h
                refine G_top e_v25 ?_
                refine G_istore_n (lv' := [(0, .ref h_w), (2, .int u1), (3, .int v25), (4, .int u3), (5, .int u4), (6, .int u5), (7, .int u13), (8, .int z23)]) hc dX4_rowAt_61 rfl rfl ?_
                obtain ⟨v26, e_v26, h⟩ := sb h
                refine G_iinc (v := v26) (lv' := [(0, .ref h_w), (2, .int u1), (3, .int v25), (4, .int u3), (5, .int u4), (6, .int u5), (7, .int v26), (8, .int z23)]) hc dX4_rowAt_62 rfl (e_v26.trans rfl) rfl rfl ?_
                refine G_goto (tgt := 28) hc dX4_rowAt_65 (by decide) ?_
                refine G_lv (lv' := [(0, .ref h_w), (2, .int u1), (3, .int v25), (4, .int u3), (5, .int u4), (6, .int u5), (7, .int v26)]) (lsame_cons rfl (lsame_cons rfl (lsame_cons rfl (lsame_cons rfl (lsame_cons rfl (lsame_cons rfl (lsame_cons rfl lsame_nil))))))) ?_
                exact ih18 _ _ h
              · have h := inn h c27
                have h := Option.some.inj h
                subst h
                refine G_lv (lv' := [(0, .ref h_w), (2, .int u1), (3, .int u12), (4, .int u3), (5, .int u4), (6, .int u5), (7, .int u13)]) (lsame_cons rfl (lsame_cons rfl (lsame_cons rfl (lsame_cons rfl (lsame_cons rfl (lsame_cons rfl (lsame_cons rfl lsame_nil))))))) ?_
                exact hK19 _ rfl
        refine G_lv (lv' := [(0, .ref h_w), (2, .int u1), (3, .int u2), (4, .int u3), (5, .int u4), (6, .int u5), (7, .int (0 : Int32))]) (lsame_cons rfl (lsame_cons rfl (lsame_cons rfl (lsame_cons rfl (lsame_cons rfl (lsame_cons rfl (lsame_cons rfl lsame_nil))))))) ?_
        exact hL16 F _ _ hl15
  refine G_lv (lv' := [(0, .ref h_w), (2, .int (0 : Int32)), (3, .int a1), (4, .int w_full), (5, .int (0 : Int32)), (6, .int (0 : Int32))]) (lsame_cons rfl (lsame_cons rfl (lsame_cons rfl (lsame_cons rfl (lsame_cons rfl (lsame_cons rfl lsame_nil)))))) ?_
  exact hL8 F _ _ _ _ _ hl7
set_option maxHeartbeats 4000000 in
set_option maxRecDepth 100000 in
theorem c_X5_shuffleAt (l : Launch) (D : va_G) (cI cS : ClassId) (X : XP) (F : Nat) (h_x h_x_now h_x_now_book h_x_text h_x_text_signs h_x_trial h_x_trial_state h_x_trial_state_book h_x_ways h_x_ways_stock h_x_ways_weight h_x_ways_known h_x_ways_found h_x_measured h_x_pairCounts h_past : Nat) (x_pastStates : Int32) (x_now_row : Int32) (x_now_table : Int32) (x_now_kept : Int32) (x_now_book : Nat → Int32) (x_text_length : Int32) (x_text_word : Int32) (x_text_kind : Int32) (x_text_number : Int32) (x_text_row : Int32) (x_text_reached : Int32) (x_text_broken : Int32) (x_text_signs : Nat → Int32) (x_trial_orders : Int32) (x_trial_position : Int32) (x_trial_reason : Int32) (x_trial_cause : Int32) (x_trial_state_row : Int32) (x_trial_state_table : Int32) (x_trial_state_kept : Int32) (x_trial_state_book : Nat → Int32) (x_ways_measure : Bool) (x_ways_values : Int32) (x_ways_row : Int32) (x_ways_rowCodes : Int32) (x_ways_table : Int32) (x_ways_length : Int32) (x_ways_full : Int32) (x_ways_pairs : Int32) (x_ways_codes : Int32) (x_ways_stock : Nat → Int32) (x_ways_weight : Nat → Int32) (x_ways_known : Nat → Int32) (x_ways_found : Nat → Int32) (x_measured_which : Int32) (x_measured_x : Int32) (x_measured_y : Int32) (x_measured_row : Int32) (x_measured_table : Int32) (x_pairCounts : Nat → Int32) (a1 : Int32) (a2 : Int32) (a3 : Int32) {res : Int32 × Bool × Int32 × Int32 × Int32 × Int32 × Int32 × Int32 × Int32 × Int32 × (Nat → Int32) × (Nat → Int32) × (Nat → Int32) × (Nat → Int32)} (h : f_X5_shuffleAt F x_now_row x_now_table x_ways_measure x_ways_values x_ways_row x_ways_rowCodes x_ways_table x_ways_length x_ways_full x_ways_pairs x_ways_codes x_ways_stock x_ways_weight x_ways_known x_ways_found x_measured_which x_measured_x x_measured_y x_measured_row x_measured_table a1 a2 a3 = some res) : CtI l D cI cS X yX5_shuffleAt cX5_shuffleAt 4 (some .int) 18 [.ref h_x, .int a1, .int a2, .int a3] [(h_x, .inr (5, [.ref h_x_now, .ref h_past, .int x_pastStates, .ref h_x_text, .ref h_x_trial, .ref h_x_ways, .ref h_x_measured, .ref h_x_pairCounts])), (h_x_now, .inr (1, [.int x_now_row, .int x_now_table, .int x_now_kept, .ref h_x_now_book])), (h_x_now_book, .inl (cI, 8, .inl x_now_book)), (h_x_text, .inr (2, [.ref h_x_text_signs, .int x_text_length, .int x_text_word, .int x_text_kind, .int x_text_number, .int x_text_row, .int x_text_reached, .int x_text_broken])), (h_x_text_signs, .inl (cI, 60, .inl x_text_signs)), (h_x_trial, .inr (3, [.ref h_x_trial_state, .int x_trial_orders, .int x_trial_position, .int x_trial_reason, .int x_trial_cause])), (h_x_trial_state, .inr (1, [.int x_trial_state_row, .int x_trial_state_table, .int x_trial_state_kept, .ref h_x_trial_state_book])), (h_x_trial_state_book, .inl (cI, 8, .inl x_trial_state_book)), (h_x_ways, .inr (4, [.ref h_x_ways_stock, .ref h_x_ways_weight, .ref h_x_ways_known, .ref h_x_ways_found, nv x_ways_measure h_x_measured, .int x_ways_values, .int x_ways_row, .int x_ways_rowCodes, .int x_ways_table, .int x_ways_length, .int x_ways_full, .int x_ways_pairs, .int x_ways_codes])), (h_x_ways_stock, .inl (cI, 16, .inl x_ways_stock)), (h_x_ways_weight, .inl (cI, 16, .inl x_ways_weight)), (h_x_ways_known, .inl (cI, 577, .inl x_ways_known)), (h_x_ways_found, .inl (cI, 6347, .inl x_ways_found)), (h_x_measured, .inr (0, [.int x_measured_which, .int x_measured_x, .int x_measured_y, .int x_measured_row, .int x_measured_table])), (h_x_pairCounts, .inl (cI, 16, .inl x_pairCounts))] (PoI res.1 [(h_x, .inr (5, [.ref h_x_now, .ref h_past, .int x_pastStates, .ref h_x_text, .ref h_x_trial, .ref h_x_ways, .ref h_x_measured, .ref h_x_pairCounts])), (h_x_now, .inr (1, [.int x_now_row, .int x_now_table, .int x_now_kept, .ref h_x_now_book])), (h_x_now_book, .inl (cI, 8, .inl x_now_book)), (h_x_text, .inr (2, [.ref h_x_text_signs, .int x_text_length, .int x_text_word, .int x_text_kind, .int x_text_number, .int x_text_row, .int x_text_reached, .int x_text_broken])), (h_x_text_signs, .inl (cI, 60, .inl x_text_signs)), (h_x_trial, .inr (3, [.ref h_x_trial_state, .int x_trial_orders, .int x_trial_position, .int x_trial_reason, .int x_trial_cause])), (h_x_trial_state, .inr (1, [.int x_trial_state_row, .int x_trial_state_table, .int x_trial_state_kept, .ref h_x_trial_state_book])), (h_x_trial_state_book, .inl (cI, 8, .inl x_trial_state_book)), (h_x_ways, .inr (4, [.ref h_x_ways_stock, .ref h_x_ways_weight, .ref h_x_ways_known, .ref h_x_ways_found, nv res.2.1 h_x_measured, .int res.2.2.1, .int res.2.2.2.1, .int res.2.2.2.2.1, .int res.2.2.2.2.2.1, .int res.2.2.2.2.2.2.1, .int res.2.2.2.2.2.2.2.1, .int res.2.2.2.2.2.2.2.2.1, .int res.2.2.2.2.2.2.2.2.2.1])), (h_x_ways_stock, .inl (cI, 16, .inl res.2.2.2.2.2.2.2.2.2.2.1)), (h_x_ways_weight, .inl (cI, 16, .inl res.2.2.2.2.2.2.2.2.2.2.2.1)), (h_x_ways_known, .inl (cI, 577, .inl res.2.2.2.2.2.2.2.2.2.2.2.2.1)), (h_x_ways_found, .inl (cI, 6347, .inl res.2.2.2.2.2.2.2.2.2.2.2.2.2)), (h_x_measured, .inr (0, [.int x_measured_which, .int x_measured_x, .int x_measured_y, .int x_measured_row, .int x_measured_table])), (h_x_pairCounts, .inl (cI, 16, .inl x_pairCounts))]) := by
  refine CtI.of (by decide +kernel) rfl ?_
  intro p e s m below meth c A hc
  refine G_lv (lv' := [(0, .ref h_x), (1, .int a1), (2, .int a2), (3, .int a3)]) (lsame_cons rfl (lsame_cons rfl (lsame_cons rfl (lsame_cons rfl lsame_nil)))) ?_
  unfold f_X5_shuffleAt at h
  refine G_iload_n hc dX5_shuffleAt_0 rfl ?_
  refine G_iconst (v := 3) hc dX5_shuffleAt_1 (by decide) ?_
  obtain ⟨z1, hu2, h⟩ := ob h
  refine G_callSI (ws2 := [(h_x, .inr (5, [.ref h_x_now, .ref h_past, .int x_pastStates, .ref h_x_text, .ref h_x_trial, .ref h_x_ways, .ref h_x_measured, .ref h_x_pairCounts])), (h_x_now, .inr (1, [.int x_now_row, .int x_now_table, .int x_now_kept, .ref h_x_now_book])), (h_x_now_book, .inl (cI, 8, .inl x_now_book)), (h_x_text, .inr (2, [.ref h_x_text_signs, .int x_text_length, .int x_text_word, .int x_text_kind, .int x_text_number, .int x_text_row, .int x_text_reached, .int x_text_broken])), (h_x_text_signs, .inl (cI, 60, .inl x_text_signs)), (h_x_trial, .inr (3, [.ref h_x_trial_state, .int x_trial_orders, .int x_trial_position, .int x_trial_reason, .int x_trial_cause])), (h_x_trial_state, .inr (1, [.int x_trial_state_row, .int x_trial_state_table, .int x_trial_state_kept, .ref h_x_trial_state_book])), (h_x_trial_state_book, .inl (cI, 8, .inl x_trial_state_book)), (h_x_ways, .inr (4, [.ref h_x_ways_stock, .ref h_x_ways_weight, .ref h_x_ways_known, .ref h_x_ways_found, nv x_ways_measure h_x_measured, .int x_ways_values, .int x_ways_row, .int x_ways_rowCodes, .int x_ways_table, .int x_ways_length, .int x_ways_full, .int x_ways_pairs, .int x_ways_codes])), (h_x_ways_stock, .inl (cI, 16, .inl x_ways_stock)), (h_x_ways_weight, .inl (cI, 16, .inl x_ways_weight)), (h_x_ways_known, .inl (cI, 577, .inl x_ways_known)), (h_x_ways_found, .inl (cI, 6347, .inl x_ways_found)), (h_x_measured, .inr (0, [.int x_measured_which, .int x_measured_x, .int x_measured_y, .int x_measured_row, .int x_measured_table])), (h_x_pairCounts, .inl (cI, 16, .inl x_pairCounts))]) hc m_X5_52 (c_X5_within l D cI cS X F a1 (3 : Int32) hu2) [] (rmok_of (Nat.le_of_ble_eq_true rfl)) ⟨Nat.zero_le _, Nat.zero_le _⟩ rfl rfl rfl rfl rfl ⟨rfl, rfl, rfl⟩ dX5_shuffleAt_2 ?_
  refine G_if_eq (tgt := 16) hc dX5_shuffleAt_5 (by decide) (fun c20 => ?_) (fun c20 => ?_)
  · have h := ip h c20
    refine G_ldc (v := -1000001) hc k_X5_56 dX5_shuffleAt_16 ?_
    have h := Option.some.inj h
    subst h
    exact G_ireturn hc ⟨rfl, rfl⟩ dX5_shuffleAt_18
  · have h := inn h c20
    refine G_iload_n hc dX5_shuffleAt_8 rfl ?_
    refine G_if_lt (tgt := 16) hc dX5_shuffleAt_9 (by decide) (fun c19 => ?_) (fun c19 => ?_)
    · have h := ip h c19
      refine G_ldc (v := -1000001) hc k_X5_56 dX5_shuffleAt_16 ?_
      have h := Option.some.inj h
      subst h
      exact G_ireturn hc ⟨rfl, rfl⟩ dX5_shuffleAt_18
    · have h := inn h c19
      refine G_iload_n hc dX5_shuffleAt_12 rfl ?_
      refine G_if_ge (tgt := 19) hc dX5_shuffleAt_13 (by decide) (fun c18 => ?_) (fun c18 => ?_)
      · have h := ip h c18
        refine G_iload_n hc dX5_shuffleAt_19 rfl ?_
        refine G_aload_n hc dX5_shuffleAt_20 rfl ?_
        refine G_get hc f_X5_10 0 rfl rfl dX5_shuffleAt_21 ?_
        refine G_get hc f_X5_57 1 rfl rfl dX5_shuffleAt_24 ?_
        obtain ⟨z3, hu4, h⟩ := ob h
        refine G_callSI (ws2 := [(h_x, .inr (5, [.ref h_x_now, .ref h_past, .int x_pastStates, .ref h_x_text, .ref h_x_trial, .ref h_x_ways, .ref h_x_measured, .ref h_x_pairCounts])), (h_x_now, .inr (1, [.int x_now_row, .int x_now_table, .int x_now_kept, .ref h_x_now_book])), (h_x_now_book, .inl (cI, 8, .inl x_now_book)), (h_x_text, .inr (2, [.ref h_x_text_signs, .int x_text_length, .int x_text_word, .int x_text_kind, .int x_text_number, .int x_text_row, .int x_text_reached, .int x_text_broken])), (h_x_text_signs, .inl (cI, 60, .inl x_text_signs)), (h_x_trial, .inr (3, [.ref h_x_trial_state, .int x_trial_orders, .int x_trial_position, .int x_trial_reason, .int x_trial_cause])), (h_x_trial_state, .inr (1, [.int x_trial_state_row, .int x_trial_state_table, .int x_trial_state_kept, .ref h_x_trial_state_book])), (h_x_trial_state_book, .inl (cI, 8, .inl x_trial_state_book)), (h_x_ways, .inr (4, [.ref h_x_ways_stock, .ref h_x_ways_weight, .ref h_x_ways_known, .ref h_x_ways_found, nv x_ways_measure h_x_measured, .int x_ways_values, .int x_ways_row, .int x_ways_rowCodes, .int x_ways_table, .int x_ways_length, .int x_ways_full, .int x_ways_pairs, .int x_ways_codes])), (h_x_ways_stock, .inl (cI, 16, .inl x_ways_stock)), (h_x_ways_weight, .inl (cI, 16, .inl x_ways_weight)), (h_x_ways_known, .inl (cI, 577, .inl x_ways_known)), (h_x_ways_found, .inl (cI, 6347, .inl x_ways_found)), (h_x_measured, .inr (0, [.int x_measured_which, .int x_measured_x, .int x_measured_y, .int x_measured_row, .int x_measured_table])), (h_x_pairCounts, .inl (cI, 16, .inl x_pairCounts))]) hc m_X5_61 (c_X5_lengthOf l D cI cS X F x_now_row hu4) [] (rmok_of (Nat.le_of_ble_eq_true rfl)) ⟨Nat.zero_le _, Nat.zero_le _⟩ rfl rfl rfl rfl rfl ⟨rfl, rfl, rfl⟩ dX5_shuffleAt_27 ?_
        refine G_icmp_lt (tgt := 36) hc dX5_shuffleAt_30 (by decide) (fun c17 => ?_) (fun c17 => ?_)
        · have h := ip h c17
          refine G_aload_n hc dX5_shuffleAt_36 rfl ?_
          refine G_get hc f_X5_37 0 rfl rfl dX5_shuffleAt_37 ?_
          refine G_aload_n hc dX5_shuffleAt_40 rfl ?_
          refine G_get hc f_X5_10 0 rfl rfl dX5_shuffleAt_41 ?_
          refine G_iload_n hc dX5_shuffleAt_44 rfl ?_
          obtain ⟨z5, hu6, h⟩ := ob h
          refine G_callVV (ws2 := [(h_x, .inr (5, [.ref h_x_now, .ref h_past, .int x_pastStates, .ref h_x_text, .ref h_x_trial, .ref h_x_ways, .ref h_x_measured, .ref h_x_pairCounts])), (h_x_now, .inr (1, [.int x_now_row, .int x_now_table, .int x_now_kept, .ref h_x_now_book])), (h_x_now_book, .inl (cI, 8, .inl x_now_book)), (h_x_text, .inr (2, [.ref h_x_text_signs, .int x_text_length, .int x_text_word, .int x_text_kind, .int x_text_number, .int x_text_row, .int x_text_reached, .int x_text_broken])), (h_x_text_signs, .inl (cI, 60, .inl x_text_signs)), (h_x_trial, .inr (3, [.ref h_x_trial_state, .int x_trial_orders, .int x_trial_position, .int x_trial_reason, .int x_trial_cause])), (h_x_trial_state, .inr (1, [.int x_trial_state_row, .int x_trial_state_table, .int x_trial_state_kept, .ref h_x_trial_state_book])), (h_x_trial_state_book, .inl (cI, 8, .inl x_trial_state_book)), (h_x_ways, .inr (4, [.ref h_x_ways_stock, .ref h_x_ways_weight, .ref h_x_ways_known, .ref h_x_ways_found, nv z5.1 h_x_measured, .int z5.2.1, .int z5.2.2.1, .int z5.2.2.2.1, .int z5.2.2.2.2.1, .int z5.2.2.2.2.2.1, .int z5.2.2.2.2.2.2.1, .int z5.2.2.2.2.2.2.2.1, .int z5.2.2.2.2.2.2.2.2.1])), (h_x_ways_stock, .inl (cI, 16, .inl z5.2.2.2.2.2.2.2.2.2.1)), (h_x_ways_weight, .inl (cI, 16, .inl z5.2.2.2.2.2.2.2.2.2.2.1)), (h_x_ways_known, .inl (cI, 577, .inl z5.2.2.2.2.2.2.2.2.2.2.2.1)), (h_x_ways_found, .inl (cI, 6347, .inl z5.2.2.2.2.2.2.2.2.2.2.2.2)), (h_x_measured, .inr (0, [.int x_measured_which, .int x_measured_x, .int x_measured_y, .int x_measured_row, .int x_measured_table])), (h_x_pairCounts, .inl (cI, 16, .inl x_pairCounts))]) hc m_X5_104 (c_X4_open l D cI cS X F h_x_ways h_x_ways_stock h_x_ways_weight h_x_ways_known h_x_ways_found h_x_measured h_x_now h_x_now_book x_ways_measure x_ways_values x_ways_row x_ways_rowCodes x_ways_table x_ways_length x_ways_full x_ways_pairs x_ways_codes x_ways_stock x_ways_weight x_ways_known x_ways_found x_measured_which x_measured_x x_measured_y x_measured_row x_measured_table x_now_row x_now_table x_now_kept x_now_book a1 hu6) 8 [8, 9, 10, 11, 12, 13, 1, 2] rfl rfl (rmok_of (Nat.le_of_ble_eq_true rfl)) ⟨Nat.zero_le _, Nat.zero_le _⟩ rfl rfl rfl rfl rfl ⟨rfl, rfl, rfl⟩ dX5_shuffleAt_45 ?_
          refine G_iload_n hc dX5_shuffleAt_48 rfl ?_
          refine G_aload_n hc dX5_shuffleAt_49 rfl ?_
          refine G_get hc f_X5_37 0 rfl rfl dX5_shuffleAt_50 ?_
          obtain ⟨z7, hu8, h⟩ := ob h
          refine G_callVI (ws2 := [(h_x, .inr (5, [.ref h_x_now, .ref h_past, .int x_pastStates, .ref h_x_text, .ref h_x_trial, .ref h_x_ways, .ref h_x_measured, .ref h_x_pairCounts])), (h_x_now, .inr (1, [.int x_now_row, .int x_now_table, .int x_now_kept, .ref h_x_now_book])), (h_x_now_book, .inl (cI, 8, .inl x_now_book)), (h_x_text, .inr (2, [.ref h_x_text_signs, .int x_text_length, .int x_text_word, .int x_text_kind, .int x_text_number, .int x_text_row, .int x_text_reached, .int x_text_broken])), (h_x_text_signs, .inl (cI, 60, .inl x_text_signs)), (h_x_trial, .inr (3, [.ref h_x_trial_state, .int x_trial_orders, .int x_trial_position, .int x_trial_reason, .int x_trial_cause])), (h_x_trial_state, .inr (1, [.int x_trial_state_row, .int x_trial_state_table, .int x_trial_state_kept, .ref h_x_trial_state_book])), (h_x_trial_state_book, .inl (cI, 8, .inl x_trial_state_book)), (h_x_ways, .inr (4, [.ref h_x_ways_stock, .ref h_x_ways_weight, .ref h_x_ways_known, .ref h_x_ways_found, nv z5.1 h_x_measured, .int z5.2.1, .int z5.2.2.1, .int z5.2.2.2.1, .int z5.2.2.2.2.1, .int z5.2.2.2.2.2.1, .int z5.2.2.2.2.2.2.1, .int z5.2.2.2.2.2.2.2.1, .int z5.2.2.2.2.2.2.2.2.1])), (h_x_ways_stock, .inl (cI, 16, .inl z5.2.2.2.2.2.2.2.2.2.1)), (h_x_ways_weight, .inl (cI, 16, .inl z5.2.2.2.2.2.2.2.2.2.2.1)), (h_x_ways_known, .inl (cI, 577, .inl z5.2.2.2.2.2.2.2.2.2.2.2.1)), (h_x_ways_found, .inl (cI, 6347, .inl z5.2.2.2.2.2.2.2.2.2.2.2.2)), (h_x_measured, .inr (0, [.int x_measured_which, .int x_measured_x, .int x_measured_y, .int x_measured_row, .int x_measured_table])), (h_x_pairCounts, .inl (cI, 16, .inl x_pairCounts))]) hc m_X5_108 (c_X4_total l D cI cS X F h_x_ways h_x_ways_stock h_x_ways_weight h_x_ways_known h_x_ways_found h_x_measured z5.1 z5.2.1 z5.2.2.1 z5.2.2.2.1 z5.2.2.2.2.1 z5.2.2.2.2.2.1 z5.2.2.2.2.2.2.1 z5.2.2.2.2.2.2.2.1 z5.2.2.2.2.2.2.2.2.1 z5.2.2.2.2.2.2.2.2.2.1 z5.2.2.2.2.2.2.2.2.2.2.1 z5.2.2.2.2.2.2.2.2.2.2.2.1 z5.2.2.2.2.2.2.2.2.2.2.2.2 x_measured_which x_measured_x x_measured_y x_measured_row x_measured_table hu8) 8 [8, 9, 10, 11, 12, 13] rfl rfl (rmok_of (Nat.le_of_ble_eq_true rfl)) ⟨Nat.zero_le _, Nat.zero_le _⟩ rfl rfl rfl rfl rfl ⟨rfl, rfl, rfl⟩ dX5_shuffleAt_53 ?_
          obtain ⟨t9, hr11, h⟩ := ob h
          have hj10 : G p l e (rmk 18) s m [.ref h_x, .int a1, .int a2, .int a3].toArray below meth c D A 4 0 0 (QI below [.ref h_x, .int a1, .int a2, .int a3].toArray s D A (PoI res.1 [(h_x, .inr (5, [.ref h_x_now, .ref h_past, .int x_pastStates, .ref h_x_text, .ref h_x_trial, .ref h_x_ways, .ref h_x_measured, .ref h_x_pairCounts])), (h_x_now, .inr (1, [.int x_now_row, .int x_now_table, .int x_now_kept, .ref h_x_now_book])), (h_x_now_book, .inl (cI, 8, .inl x_now_book)), (h_x_text, .inr (2, [.ref h_x_text_signs, .int x_text_length, .int x_text_word, .int x_text_kind, .int x_text_number, .int x_text_row, .int x_text_reached, .int x_text_broken])), (h_x_text_signs, .inl (cI, 60, .inl x_text_signs)), (h_x_trial, .inr (3, [.ref h_x_trial_state, .int x_trial_orders, .int x_trial_position, .int x_trial_reason, .int x_trial_cause])), (h_x_trial_state, .inr (1, [.int x_trial_state_row, .int x_trial_state_table, .int x_trial_state_kept, .ref h_x_trial_state_book])), (h_x_trial_state_book, .inl (cI, 8, .inl x_trial_state_book)), (h_x_ways, .inr (4, [.ref h_x_ways_stock, .ref h_x_ways_weight, .ref h_x_ways_known, .ref h_x_ways_found, nv res.2.1 h_x_measured, .int res.2.2.1, .int res.2.2.2.1, .int res.2.2.2.2.1, .int res.2.2.2.2.2.1, .int res.2.2.2.2.2.2.1, .int res.2.2.2.2.2.2.2.1, .int res.2.2.2.2.2.2.2.2.1, .int res.2.2.2.2.2.2.2.2.2.1])), (h_x_ways_stock, .inl (cI, 16, .inl res.2.2.2.2.2.2.2.2.2.2.1)), (h_x_ways_weight, .inl (cI, 16, .inl res.2.2.2.2.2.2.2.2.2.2.2.1)), (h_x_ways_known, .inl (cI, 577, .inl res.2.2.2.2.2.2.2.2.2.2.2.2.1)), (h_x_ways_found, .inl (cI, 6347, .inl res.2.2.2.2.2.2.2.2.2.2.2.2.2)), (h_x_measured, .inr (0, [.int x_measured_which, .int x_measured_x, .int x_measured_y, .int x_measured_row, .int x_measured_table])), (h_x_pairCounts, .inl (cI, 16, .inl x_pairCounts))])) [(h_x, .inr (5, [.ref h_x_now, .ref h_past, .int x_pastStates, .ref h_x_text, .ref h_x_trial, .ref h_x_ways, .ref h_x_measured, .ref h_x_pairCounts])), (h_x_now, .inr (1, [.int x_now_row, .int x_now_table, .int x_now_kept, .ref h_x_now_book])), (h_x_now_book, .inl (cI, 8, .inl x_now_book)), (h_x_text, .inr (2, [.ref h_x_text_signs, .int x_text_length, .int x_text_word, .int x_text_kind, .int x_text_number, .int x_text_row, .int x_text_reached, .int x_text_broken])), (h_x_text_signs, .inl (cI, 60, .inl x_text_signs)), (h_x_trial, .inr (3, [.ref h_x_trial_state, .int x_trial_orders, .int x_trial_position, .int x_trial_reason, .int x_trial_cause])), (h_x_trial_state, .inr (1, [.int x_trial_state_row, .int x_trial_state_table, .int x_trial_state_kept, .ref h_x_trial_state_book])), (h_x_trial_state_book, .inl (cI, 8, .inl x_trial_state_book)), (h_x_ways, .inr (4, [.ref h_x_ways_stock, .ref h_x_ways_weight, .ref h_x_ways_known, .ref h_x_ways_found, nv z5.1 h_x_measured, .int z5.2.1, .int z5.2.2.1, .int z5.2.2.2.1, .int z5.2.2.2.2.1, .int z5.2.2.2.2.2.1, .int z5.2.2.2.2.2.2.1, .int z5.2.2.2.2.2.2.2.1, .int z5.2.2.2.2.2.2.2.2.1])), (h_x_ways_stock, .inl (cI, 16, .inl z5.2.2.2.2.2.2.2.2.2.1)), (h_x_ways_weight, .inl (cI, 16, .inl z5.2.2.2.2.2.2.2.2.2.2.1)), (h_x_ways_known, .inl (cI, 577, .inl z5.2.2.2.2.2.2.2.2.2.2.2.1)), (h_x_ways_found, .inl (cI, 6347, .inl z5.2.2.2.2.2.2.2.2.2.2.2.2)), (h_x_measured, .inr (0, [.int x_measured_which, .int x_measured_x, .int x_measured_y, .int x_measured_row, .int x_measured_table])), (h_x_pairCounts, .inl (cI, 16, .inl x_pairCounts))] [] 76 [.int t9] := by
            have h := Option.some.inj h
            subst h
            exact G_ireturn hc ⟨rfl, rfl⟩ dX5_shuffleAt_76
          clear h
          have h := hr11
          clear hr11
          refine G_icmp_ge (tgt := 74) hc dX5_shuffleAt_56 (by decide) (fun c16 => ?_) (fun c16 => ?_)
          · have h := ip h c16
            refine G_ldc (v := -1000004) hc k_X5_91 dX5_shuffleAt_74 ?_
            have h := Option.some.inj h
            subst h
            refine G_lv (lv' := []) lsame_nil ?_
            exact hj10
          · have h := inn h c16
            refine G_aload_n hc dX5_shuffleAt_59 rfl ?_
            refine G_get hc f_X5_37 0 rfl rfl dX5_shuffleAt_60 ?_
            refine G_iload_n hc dX5_shuffleAt_63 rfl ?_
            obtain ⟨z12, hu13, h⟩ := ob h
            refine G_callVI (ws2 := [(h_x, .inr (5, [.ref h_x_now, .ref h_past, .int x_pastStates, .ref h_x_text, .ref h_x_trial, .ref h_x_ways, .ref h_x_measured, .ref h_x_pairCounts])), (h_x_now, .inr (1, [.int x_now_row, .int x_now_table, .int x_now_kept, .ref h_x_now_book])), (h_x_now_book, .inl (cI, 8, .inl x_now_book)), (h_x_text, .inr (2, [.ref h_x_text_signs, .int x_text_length, .int x_text_word, .int x_text_kind, .int x_text_number, .int x_text_row, .int x_text_reached, .int x_text_broken])), (h_x_text_signs, .inl (cI, 60, .inl x_text_signs)), (h_x_trial, .inr (3, [.ref h_x_trial_state, .int x_trial_orders, .int x_trial_position, .int x_trial_reason, .int x_trial_cause])), (h_x_trial_state, .inr (1, [.int x_trial_state_row, .int x_trial_state_table, .int x_trial_state_kept, .ref h_x_trial_state_book])), (h_x_trial_state_book, .inl (cI, 8, .inl x_trial_state_book)), (h_x_ways, .inr (4, [.ref h_x_ways_stock, .ref h_x_ways_weight, .ref h_x_ways_known, .ref h_x_ways_found, nv z5.1 h_x_measured, .int z5.2.1, .int z5.2.2.1, .int z5.2.2.2.1, .int z5.2.2.2.2.1, .int z5.2.2.2.2.2.1, .int z5.2.2.2.2.2.2.1, .int z5.2.2.2.2.2.2.2.1, .int z5.2.2.2.2.2.2.2.2.1])), (h_x_ways_stock, .inl (cI, 16, .inl z5.2.2.2.2.2.2.2.2.2.1)), (h_x_ways_weight, .inl (cI, 16, .inl z5.2.2.2.2.2.2.2.2.2.2.1)), (h_x_ways_known, .inl (cI, 577, .inl z5.2.2.2.2.2.2.2.2.2.2.2.1)), (h_x_ways_found, .inl (cI, 6347, .inl z5.2.2.2.2.2.2.2.2.2.2.2.2)), (h_x_measured, .inr (0, [.int x_measured_which, .int x_measured_x, .int x_measured_y, .int x_measured_row, .int x_measured_table])), (h_x_pairCounts, .inl (cI, 16, .inl x_pairCounts))]) hc m_X5_115 (c_X4_rowAt l D cI cS X F h_x_ways h_x_ways_stock h_x_ways_weight h_x_ways_known h_x_ways_found h_x_measured z5.1 z5.2.1 z5.2.2.1 z5.2.2.2.1 z5.2.2.2.2.1 z5.2.2.2.2.2.1 z5.2.2.2.2.2.2.1 z5.2.2.2.2.2.2.2.1 z5.2.2.2.2.2.2.2.2.1 z5.2.2.2.2.2.2.2.2.2.1 z5.2.2.2.2.2.2.2.2.2.2.1 z5.2.2.2.2.2.2.2.2.2.2.2.1 z5.2.2.2.2.2.2.2.2.2.2.2.2 x_measured_which x_measured_x x_measured_y x_measured_row x_measured_table a2 hu13) 8 [8, 9, 10, 11, 12, 13] rfl rfl (rmok_of (Nat.le_of_ble_eq_true rfl)) ⟨Nat.zero_le _, Nat.zero_le _⟩ rfl rfl rfl rfl rfl ⟨rfl, rfl, rfl⟩ dX5_shuffleAt_64 ?_
            refine G_iload_n hc dX5_shuffleAt_67 rfl ?_
            obtain ⟨z14, hu15, h⟩ := ob h
            refine G_callSI (ws2 := [(h_x, .inr (5, [.ref h_x_now, .ref h_past, .int x_pastStates, .ref h_x_text, .ref h_x_trial, .ref h_x_ways, .ref h_x_measured, .ref h_x_pairCounts])), (h_x_now, .inr (1, [.int x_now_row, .int x_now_table, .int x_now_kept, .ref h_x_now_book])), (h_x_now_book, .inl (cI, 8, .inl x_now_book)), (h_x_text, .inr (2, [.ref h_x_text_signs, .int x_text_length, .int x_text_word, .int x_text_kind, .int x_text_number, .int x_text_row, .int x_text_reached, .int x_text_broken])), (h_x_text_signs, .inl (cI, 60, .inl x_text_signs)), (h_x_trial, .inr (3, [.ref h_x_trial_state, .int x_trial_orders, .int x_trial_position, .int x_trial_reason, .int x_trial_cause])), (h_x_trial_state, .inr (1, [.int x_trial_state_row, .int x_trial_state_table, .int x_trial_state_kept, .ref h_x_trial_state_book])), (h_x_trial_state_book, .inl (cI, 8, .inl x_trial_state_book)), (h_x_ways, .inr (4, [.ref h_x_ways_stock, .ref h_x_ways_weight, .ref h_x_ways_known, .ref h_x_ways_found, nv z5.1 h_x_measured, .int z5.2.1, .int z5.2.2.1, .int z5.2.2.2.1, .int z5.2.2.2.2.1, .int z5.2.2.2.2.2.1, .int z5.2.2.2.2.2.2.1, .int z5.2.2.2.2.2.2.2.1, .int z5.2.2.2.2.2.2.2.2.1])), (h_x_ways_stock, .inl (cI, 16, .inl z5.2.2.2.2.2.2.2.2.2.1)), (h_x_ways_weight, .inl (cI, 16, .inl z5.2.2.2.2.2.2.2.2.2.2.1)), (h_x_ways_known, .inl (cI, 577, .inl z5.2.2.2.2.2.2.2.2.2.2.2.1)), (h_x_ways_found, .inl (cI, 6347, .inl z5.2.2.2.2.2.2.2.2.2.2.2.2)), (h_x_measured, .inr (0, [.int x_measured_which, .int x_measured_x, .int x_measured_y, .int x_measured_row, .int x_measured_table])), (h_x_pairCounts, .inl (cI, 16, .inl x_pairCounts))]) hc m_X5_88 (c_X5_letterOf l D cI cS X F z12 a3 hu15) [] (rmok_of (Nat.le_of_ble_eq_true rfl)) ⟨Nat.zero_le _, Nat.zero_le _⟩ rfl rfl rfl rfl rfl ⟨rfl, rfl, rfl⟩ dX5_shuffleAt_68 ?_
            refine G_goto (tgt := 76) hc dX5_shuffleAt_71 (by decide) ?_
            have h := Option.some.inj h
            subst h
            refine G_lv (lv' := []) lsame_nil ?_
            exact hj10
        · have h := inn h c17
          refine G_ldc (v := -1000004) hc k_X5_91 dX5_shuffleAt_33 ?_
          have h := Option.some.inj h
          subst h
          exact G_ireturn hc ⟨rfl, rfl⟩ dX5_shuffleAt_35
      · have h := inn h c18
        refine G_ldc (v := -1000001) hc k_X5_56 dX5_shuffleAt_16 ?_
        have h := Option.some.inj h
        subst h
        exact G_ireturn hc ⟨rfl, rfl⟩ dX5_shuffleAt_18
set_option maxHeartbeats 4000000 in
set_option maxRecDepth 100000 in
theorem c_X0_set (l : Launch) (D : va_G) (cI cS : ClassId) (X : XP) (F : Nat) (h_q h_o h_o_book : Nat) (q_which : Int32) (q_x : Int32) (q_y : Int32) (q_row : Int32) (q_table : Int32) (o_row : Int32) (o_table : Int32) (o_kept : Int32) (o_book : Nat → Int32) (a1 : Int32) (a2 : Int32) (a3 : Int32) {res : Int32 × Int32 × Int32 × Int32 × Int32} (h : f_X0_set F o_row o_table a1 a2 a3 = some res) : CtV l D cI cS X yX0_set cX0_set 5 1 [.ref h_q, .int a1, .int a2, .int a3, .ref h_o] [(h_q, .inr (0, [.int q_which, .int q_x, .int q_y, .int q_row, .int q_table])), (h_o, .inr (1, [.int o_row, .int o_table, .int o_kept, .ref h_o_book])), (h_o_book, .inl (cI, 8, .inl o_book))] (PoV [(h_q, .inr (0, [.int res.1, .int res.2.1, .int res.2.2.1, .int res.2.2.2.1, .int res.2.2.2.2])), (h_o, .inr (1, [.int o_row, .int o_table, .int o_kept, .ref h_o_book])), (h_o_book, .inl (cI, 8, .inl o_book))]) := by
  refine CtV.of (by decide +kernel) rfl ?_
  intro p e s m below meth c A hc
  refine G_lv (lv' := [(0, .ref h_q), (1, .int a1), (2, .int a2), (3, .int a3), (4, .ref h_o)]) (lsame_cons rfl (lsame_cons rfl (lsame_cons rfl (lsame_cons rfl (lsame_cons rfl lsame_nil))))) ?_
  unfold f_X0_set at h
  refine G_aload_n hc dX0_set_0 rfl ?_
  refine G_iload_n hc dX0_set_1 rfl ?_
  refine G_puti (ws' := [(h_q, .inr (0, [.int a1, .int q_x, .int q_y, .int q_row, .int q_table])), (h_o, .inr (1, [.int o_row, .int o_table, .int o_kept, .ref h_o_book])), (h_o_book, .inl (cI, 8, .inl o_book))]) hc f_X0_9 p_X0_0 0 rfl rfl rfl dX0_set_2 ?_
  refine G_aload_n hc dX0_set_5 rfl ?_
  refine G_iload_n hc dX0_set_6 rfl ?_
  refine G_puti (ws' := [(h_q, .inr (0, [.int a1, .int a2, .int q_y, .int q_row, .int q_table])), (h_o, .inr (1, [.int o_row, .int o_table, .int o_kept, .ref h_o_book])), (h_o_book, .inl (cI, 8, .inl o_book))]) hc f_X0_15 p_X0_1 0 rfl rfl rfl dX0_set_7 ?_
  refine G_aload_n hc dX0_set_10 rfl ?_
  refine G_iload_n hc dX0_set_11 rfl ?_
  refine G_puti (ws' := [(h_q, .inr (0, [.int a1, .int a2, .int a3, .int q_row, .int q_table])), (h_o, .inr (1, [.int o_row, .int o_table, .int o_kept, .ref h_o_book])), (h_o_book, .inl (cI, 8, .inl o_book))]) hc f_X0_18 p_X0_2 0 rfl rfl rfl dX0_set_12 ?_
  refine G_aload_n hc dX0_set_15 rfl ?_
  refine G_aload hc dX0_set_16 rfl ?_
  refine G_get hc f_X0_21 1 rfl rfl dX0_set_18 ?_
  refine G_puti (ws' := [(h_q, .inr (0, [.int a1, .int a2, .int a3, .int o_row, .int q_table])), (h_o, .inr (1, [.int o_row, .int o_table, .int o_kept, .ref h_o_book])), (h_o_book, .inl (cI, 8, .inl o_book))]) hc f_X0_26 p_X0_3 0 rfl rfl rfl dX0_set_21 ?_
  refine G_aload_n hc dX0_set_24 rfl ?_
  refine G_aload hc dX0_set_25 rfl ?_
  refine G_get hc f_X0_27 1 rfl rfl dX0_set_27 ?_
  refine G_puti (ws' := [(h_q, .inr (0, [.int a1, .int a2, .int a3, .int o_row, .int o_table])), (h_o, .inr (1, [.int o_row, .int o_table, .int o_kept, .ref h_o_book])), (h_o_book, .inl (cI, 8, .inl o_book))]) hc f_X0_30 p_X0_4 0 rfl rfl rfl dX0_set_30 ?_
  have h := Option.some.inj h
  subst h
  exact G_return hc rfl dX0_set_33
set_option maxHeartbeats 4000000 in
set_option maxRecDepth 100000 in
theorem c_X0_ofRow (l : Launch) (D : va_G) (cI cS : ClassId) (X : XP) (F : Nat) (h_q : Nat) (q_which : Int32) (q_x : Int32) (q_y : Int32) (q_row : Int32) (q_table : Int32) {res : Int32} (h : f_X0_ofRow F q_which q_x q_y q_row q_table = some res) : CtI l D cI cS X yX0_ofRow cX0_ofRow 5 (some .int) 3 [.ref h_q] [(h_q, .inr (0, [.int q_which, .int q_x, .int q_y, .int q_row, .int q_table]))] (PoI res [(h_q, .inr (0, [.int q_which, .int q_x, .int q_y, .int q_row, .int q_table]))]) := by
  refine CtI.of (by decide +kernel) rfl ?_
  intro p e s m below meth c A hc
  refine G_lv (lv' := [(0, .ref h_q)]) (lsame_cons rfl lsame_nil) ?_
  unfold f_X0_ofRow at h
  refine G_iconst (v := 0) hc dX0_ofRow_0 (by decide) ?_
  refine G_istore_n (lv' := [(0, .ref h_q), (1, .int (0 : Int32))]) hc dX0_ofRow_1 rfl rfl ?_
  refine G_iconst (v := 0) hc dX0_ofRow_2 (by decide) ?_
  refine G_istore_n (lv' := [(0, .ref h_q), (1, .int (0 : Int32)), (2, .int (0 : Int32))]) hc dX0_ofRow_3 rfl rfl ?_
  refine G_iconst (v := 0) hc dX0_ofRow_4 (by decide) ?_
  refine G_istore_n (lv' := [(0, .ref h_q), (1, .int (0 : Int32)), (2, .int (0 : Int32)), (3, .int (0 : Int32))]) hc dX0_ofRow_5 rfl rfl ?_
  obtain ⟨e4, hl5, h⟩ := ob h
  have hK9 : G p l e (rmk 3) s m [.ref h_q].toArray below meth c D A 5 0 0 (QI below [.ref h_q].toArray s D A (PoI res [(h_q, .inr (0, [.int q_which, .int q_x, .int q_y, .int q_row, .int q_table]))])) [(h_q, .inr (0, [.int q_which, .int q_x, .int q_y, .int q_row, .int q_table]))] [(1, .int e4)] 47 [] := by
    refine G_iload_n hc dX0_ofRow_47 rfl ?_
    have h := Option.some.inj h
    subst h
    exact G_ireturn hc ⟨rfl, rfl⟩ dX0_ofRow_48
  clear h
  have hL6 : ∀ (n7 : Nat) (u1 : Int32) (u2 : Int32) (u3 : Int32), f_X0_ofRow_L6 F q_which q_x q_y q_row q_table n7 u1 u2 u3 = some e4 → G p l e (rmk 3) s m [.ref h_q].toArray below meth c D A 5 0 0 (QI below [.ref h_q].toArray s D A (PoI res [(h_q, .inr (0, [.int q_which, .int q_x, .int q_y, .int q_row, .int q_table]))])) [(h_q, .inr (0, [.int q_which, .int q_x, .int q_y, .int q_row, .int q_table]))] [(0, .ref h_q), (1, .int u1), (2, .int u2), (3, .int u3)] 6 [] := by
    intro n7
    induction n7 with
    | zero =>
      intro u1 u2 u3 h
      exact nz h
    | succ n7 ih8 =>
      intro u1 u2 u3 h
      rw [f_X0_ofRow_L6] at h
      refine G_iload_n hc dX0_ofRow_6 rfl ?_
      refine G_aload_n hc dX0_ofRow_7 rfl ?_
      refine G_get hc f_X0_26 0 rfl rfl dX0_ofRow_8 ?_
      obtain ⟨z10, hu11, h⟩ := ob h
      refine G_callNI (ws2 := [(h_q, .inr (0, [.int q_which, .int q_x, .int q_y, .int q_row, .int q_table]))]) hc m_X0_39 (c_X5_lengthOf l D cI cS X F q_row hu11) [] (rmok_of (Nat.le_of_ble_eq_true rfl)) ⟨Nat.zero_le _, Nat.zero_le _⟩ rfl rfl rfl rfl rfl ⟨rfl, rfl, rfl⟩ dX0_ofRow_11 ?_
      refine G_icmp_ge (tgt := 47) hc dX0_ofRow_14 (by decide) (fun c18 => ?_) (fun c18 => ?_)
      · have h := ip h c18
        have h := Option.some.inj h
        subst h
        refine G_lv (lv' := [(1, .int u1)]) (lsame_cons rfl lsame_nil) ?_
        exact hK9
      · have h := inn h c18
        refine G_aload_n hc dX0_ofRow_17 rfl ?_
        refine G_get hc f_X0_26 0 rfl rfl dX0_ofRow_18 ?_
        refine G_iload_n hc dX0_ofRow_21 rfl ?_
        obtain ⟨z12, hu13, h⟩ := ob h
        refine G_callNI (ws2 := [(h_q, .inr (0, [.int q_which, .int q_x, .int q_y, .int q_row, .int q_table]))]) hc m_X0_31 (c_X5_letterOf l D cI cS X F q_row u3 hu13) [] (rmok_of (Nat.le_of_ble_eq_true rfl)) ⟨Nat.zero_le _, Nat.zero_le _⟩ rfl rfl rfl rfl rfl ⟨rfl, rfl, rfl⟩ dX0_ofRow_22 ?_
        refine G_istore (lv' := [(0, .ref h_q), (1, .int u1), (2, .int u2), (3, .int u3), (4, .int z12)]) hc dX0_ofRow_25 rfl rfl ?_
        refine G_iload_n hc dX0_ofRow_27 rfl ?_
        refine G_aload_n hc dX0_ofRow_28 rfl ?_
        refine G_iload_n hc dX0_ofRow_29 rfl ?_
        refine G_iload_n hc dX0_ofRow_30 rfl ?_
        refine G_iload hc dX0_ofRow_31 rfl ?_
        obtain ⟨z14, hu15, h⟩ := ob h
        refine G_callVI (ws2 := [(h_q, .inr (0, [.int q_which, .int q_x, .int q_y, .int q_row, .int q_table]))]) hc m_X0_43 (c_X0_gain l D cI cS X F h_q q_which q_x q_y q_row q_table u3 u2 z12 hu15) 0 [0] rfl rfl (rmok_of (Nat.le_of_ble_eq_true rfl)) ⟨Nat.zero_le _, Nat.zero_le _⟩ rfl rfl rfl rfl rfl ⟨rfl, rfl, rfl⟩ dX0_ofRow_33 ?_
        refine G_iadd hc dX0_ofRow_36 ?_
        obtain ⟨v16, e_v16, h⟩ := sb h
        refine G_top e_v16 ?_
        refine G_istore_n (lv' := [(0, .ref h_q), (1, .int v16), (2, .int u2), (3, .int u3), (4, .int z12)]) hc dX0_ofRow_37 rfl rfl ?_
        refine G_iload hc dX0_ofRow_38 rfl ?_
        refine G_istore_n (lv' := [(0, .ref h_q), (1, .int v16), (2, .int z12), (3, .int u3), (4, .int z12)]) hc dX0_ofRow_40 rfl rfl ?_
        obtain ⟨v17, e_v17, h⟩ := sb h
        refine G_iinc (v := v17) (lv' := [(0, .ref h_q), (1, .int v16), (2, .int z12), (3, .int v17), (4, .int z12)]) hc dX0_ofRow_41 rfl (e_v17.trans rfl) rfl rfl ?_
        refine G_goto (tgt := 6) hc dX0_ofRow_44 (by decide) ?_
        refine G_lv (lv' := [(0, .ref h_q), (1, .int v16), (2, .int z12), (3, .int v17)]) (lsame_cons rfl (lsame_cons rfl (lsame_cons rfl (lsame_cons rfl lsame_nil)))) ?_
        exact ih8 _ _ _ h
  refine G_lv (lv' := [(0, .ref h_q), (1, .int (0 : Int32)), (2, .int (0 : Int32)), (3, .int (0 : Int32))]) (lsame_cons rfl (lsame_cons rfl (lsame_cons rfl (lsame_cons rfl lsame_nil)))) ?_
  exact hL6 F _ _ _ hl5
set_option maxHeartbeats 4000000 in
set_option maxRecDepth 100000 in
theorem c_X5_measure (l : Launch) (D : va_G) (cI cS : ClassId) (X : XP) (F : Nat) (h_x h_x_now h_x_now_book h_x_text h_x_text_signs h_x_trial h_x_trial_state h_x_trial_state_book h_x_ways h_x_ways_stock h_x_ways_weight h_x_ways_known h_x_ways_found h_x_measured h_x_pairCounts h_past : Nat) (x_pastStates : Int32) (x_now_row : Int32) (x_now_table : Int32) (x_now_kept : Int32) (x_now_book : Nat → Int32) (x_text_length : Int32) (x_text_word : Int32) (x_text_kind : Int32) (x_text_number : Int32) (x_text_row : Int32) (x_text_reached : Int32) (x_text_broken : Int32) (x_text_signs : Nat → Int32) (x_trial_orders : Int32) (x_trial_position : Int32) (x_trial_reason : Int32) (x_trial_cause : Int32) (x_trial_state_row : Int32) (x_trial_state_table : Int32) (x_trial_state_kept : Int32) (x_trial_state_book : Nat → Int32) (x_ways_measure : Bool) (x_ways_values : Int32) (x_ways_row : Int32) (x_ways_rowCodes : Int32) (x_ways_table : Int32) (x_ways_length : Int32) (x_ways_full : Int32) (x_ways_pairs : Int32) (x_ways_codes : Int32) (x_ways_stock : Nat → Int32) (x_ways_weight : Nat → Int32) (x_ways_known : Nat → Int32) (x_ways_found : Nat → Int32) (x_measured_which : Int32) (x_measured_x : Int32) (x_measured_y : Int32) (x_measured_row : Int32) (x_measured_table : Int32) (x_pairCounts : Nat → Int32) (a1 : Int32) (a2 : Int32) (a3 : Int32) {res : Int32 × Int32 × Int32 × Int32 × Int32 × Int32} (h : f_X5_measure F x_now_row x_now_table x_measured_which x_measured_x x_measured_y x_measured_row x_measured_table a1 a2 a3 = some res) : CtI l D cI cS X yX5_measure cX5_measure 4 (some .int) 4 [.ref h_x, .int a1, .int a2, .int a3] [(h_x, .inr (5, [.ref h_x_now, .ref h_past, .int x_pastStates, .ref h_x_text, .ref h_x_trial, .ref h_x_ways, .ref h_x_measured, .ref h_x_pairCounts])), (h_x_now, .inr (1, [.int x_now_row, .int x_now_table, .int x_now_kept, .ref h_x_now_book])), (h_x_now_book, .inl (cI, 8, .inl x_now_book)), (h_x_text, .inr (2, [.ref h_x_text_signs, .int x_text_length, .int x_text_word, .int x_text_kind, .int x_text_number, .int x_text_row, .int x_text_reached, .int x_text_broken])), (h_x_text_signs, .inl (cI, 60, .inl x_text_signs)), (h_x_trial, .inr (3, [.ref h_x_trial_state, .int x_trial_orders, .int x_trial_position, .int x_trial_reason, .int x_trial_cause])), (h_x_trial_state, .inr (1, [.int x_trial_state_row, .int x_trial_state_table, .int x_trial_state_kept, .ref h_x_trial_state_book])), (h_x_trial_state_book, .inl (cI, 8, .inl x_trial_state_book)), (h_x_ways, .inr (4, [.ref h_x_ways_stock, .ref h_x_ways_weight, .ref h_x_ways_known, .ref h_x_ways_found, nv x_ways_measure h_x_measured, .int x_ways_values, .int x_ways_row, .int x_ways_rowCodes, .int x_ways_table, .int x_ways_length, .int x_ways_full, .int x_ways_pairs, .int x_ways_codes])), (h_x_ways_stock, .inl (cI, 16, .inl x_ways_stock)), (h_x_ways_weight, .inl (cI, 16, .inl x_ways_weight)), (h_x_ways_known, .inl (cI, 577, .inl x_ways_known)), (h_x_ways_found, .inl (cI, 6347, .inl x_ways_found)), (h_x_measured, .inr (0, [.int x_measured_which, .int x_measured_x, .int x_measured_y, .int x_measured_row, .int x_measured_table])), (h_x_pairCounts, .inl (cI, 16, .inl x_pairCounts))] (PoI res.1 [(h_x, .inr (5, [.ref h_x_now, .ref h_past, .int x_pastStates, .ref h_x_text, .ref h_x_trial, .ref h_x_ways, .ref h_x_measured, .ref h_x_pairCounts])), (h_x_now, .inr (1, [.int x_now_row, .int x_now_table, .int x_now_kept, .ref h_x_now_book])), (h_x_now_book, .inl (cI, 8, .inl x_now_book)), (h_x_text, .inr (2, [.ref h_x_text_signs, .int x_text_length, .int x_text_word, .int x_text_kind, .int x_text_number, .int x_text_row, .int x_text_reached, .int x_text_broken])), (h_x_text_signs, .inl (cI, 60, .inl x_text_signs)), (h_x_trial, .inr (3, [.ref h_x_trial_state, .int x_trial_orders, .int x_trial_position, .int x_trial_reason, .int x_trial_cause])), (h_x_trial_state, .inr (1, [.int x_trial_state_row, .int x_trial_state_table, .int x_trial_state_kept, .ref h_x_trial_state_book])), (h_x_trial_state_book, .inl (cI, 8, .inl x_trial_state_book)), (h_x_ways, .inr (4, [.ref h_x_ways_stock, .ref h_x_ways_weight, .ref h_x_ways_known, .ref h_x_ways_found, nv x_ways_measure h_x_measured, .int x_ways_values, .int x_ways_row, .int x_ways_rowCodes, .int x_ways_table, .int x_ways_length, .int x_ways_full, .int x_ways_pairs, .int x_ways_codes])), (h_x_ways_stock, .inl (cI, 16, .inl x_ways_stock)), (h_x_ways_weight, .inl (cI, 16, .inl x_ways_weight)), (h_x_ways_known, .inl (cI, 577, .inl x_ways_known)), (h_x_ways_found, .inl (cI, 6347, .inl x_ways_found)), (h_x_measured, .inr (0, [.int res.2.1, .int res.2.2.1, .int res.2.2.2.1, .int res.2.2.2.2.1, .int res.2.2.2.2.2])), (h_x_pairCounts, .inl (cI, 16, .inl x_pairCounts))]) := by
  refine CtI.of (by decide +kernel) rfl ?_
  intro p e s m below meth c A hc
  refine G_lv (lv' := [(0, .ref h_x), (1, .int a1), (2, .int a2), (3, .int a3)]) (lsame_cons rfl (lsame_cons rfl (lsame_cons rfl (lsame_cons rfl lsame_nil)))) ?_
  unfold f_X5_measure at h
  refine G_iload_n hc dX5_measure_0 rfl ?_
  refine G_iconst (v := 3) hc dX5_measure_1 (by decide) ?_
  obtain ⟨z1, hu2, h⟩ := ob h
  refine G_callSI (ws2 := [(h_x, .inr (5, [.ref h_x_now, .ref h_past, .int x_pastStates, .ref h_x_text, .ref h_x_trial, .ref h_x_ways, .ref h_x_measured, .ref h_x_pairCounts])), (h_x_now, .inr (1, [.int x_now_row, .int x_now_table, .int x_now_kept, .ref h_x_now_book])), (h_x_now_book, .inl (cI, 8, .inl x_now_book)), (h_x_text, .inr (2, [.ref h_x_text_signs, .int x_text_length, .int x_text_word, .int x_text_kind, .int x_text_number, .int x_text_row, .int x_text_reached, .int x_text_broken])), (h_x_text_signs, .inl (cI, 60, .inl x_text_signs)), (h_x_trial, .inr (3, [.ref h_x_trial_state, .int x_trial_orders, .int x_trial_position, .int x_trial_reason, .int x_trial_cause])), (h_x_trial_state, .inr (1, [.int x_trial_state_row, .int x_trial_state_table, .int x_trial_state_kept, .ref h_x_trial_state_book])), (h_x_trial_state_book, .inl (cI, 8, .inl x_trial_state_book)), (h_x_ways, .inr (4, [.ref h_x_ways_stock, .ref h_x_ways_weight, .ref h_x_ways_known, .ref h_x_ways_found, nv x_ways_measure h_x_measured, .int x_ways_values, .int x_ways_row, .int x_ways_rowCodes, .int x_ways_table, .int x_ways_length, .int x_ways_full, .int x_ways_pairs, .int x_ways_codes])), (h_x_ways_stock, .inl (cI, 16, .inl x_ways_stock)), (h_x_ways_weight, .inl (cI, 16, .inl x_ways_weight)), (h_x_ways_known, .inl (cI, 577, .inl x_ways_known)), (h_x_ways_found, .inl (cI, 6347, .inl x_ways_found)), (h_x_measured, .inr (0, [.int x_measured_which, .int x_measured_x, .int x_measured_y, .int x_measured_row, .int x_measured_table])), (h_x_pairCounts, .inl (cI, 16, .inl x_pairCounts))]) hc m_X5_52 (c_X5_within l D cI cS X F a1 (3 : Int32) hu2) [] (rmok_of (Nat.le_of_ble_eq_true rfl)) ⟨Nat.zero_le _, Nat.zero_le _⟩ rfl rfl rfl rfl rfl ⟨rfl, rfl, rfl⟩ dX5_measure_2 ?_
  refine G_if_eq (tgt := 24) hc dX5_measure_5 (by decide) (fun c13 => ?_) (fun c13 => ?_)
  · have h := ip h c13
    refine G_ldc (v := -1000001) hc k_X5_56 dX5_measure_24 ?_
    have h := Option.some.inj h
    subst h
    exact G_ireturn hc ⟨rfl, rfl⟩ dX5_measure_26
  · have h := inn h c13
    refine G_iload_n hc dX5_measure_8 rfl ?_
    refine G_iconst (v := 3) hc dX5_measure_9 (by decide) ?_
    obtain ⟨z3, hu4, h⟩ := ob h
    refine G_callSI (ws2 := [(h_x, .inr (5, [.ref h_x_now, .ref h_past, .int x_pastStates, .ref h_x_text, .ref h_x_trial, .ref h_x_ways, .ref h_x_measured, .ref h_x_pairCounts])), (h_x_now, .inr (1, [.int x_now_row, .int x_now_table, .int x_now_kept, .ref h_x_now_book])), (h_x_now_book, .inl (cI, 8, .inl x_now_book)), (h_x_text, .inr (2, [.ref h_x_text_signs, .int x_text_length, .int x_text_word, .int x_text_kind, .int x_text_number, .int x_text_row, .int x_text_reached, .int x_text_broken])), (h_x_text_signs, .inl (cI, 60, .inl x_text_signs)), (h_x_trial, .inr (3, [.ref h_x_trial_state, .int x_trial_orders, .int x_trial_position, .int x_trial_reason, .int x_trial_cause])), (h_x_trial_state, .inr (1, [.int x_trial_state_row, .int x_trial_state_table, .int x_trial_state_kept, .ref h_x_trial_state_book])), (h_x_trial_state_book, .inl (cI, 8, .inl x_trial_state_book)), (h_x_ways, .inr (4, [.ref h_x_ways_stock, .ref h_x_ways_weight, .ref h_x_ways_known, .ref h_x_ways_found, nv x_ways_measure h_x_measured, .int x_ways_values, .int x_ways_row, .int x_ways_rowCodes, .int x_ways_table, .int x_ways_length, .int x_ways_full, .int x_ways_pairs, .int x_ways_codes])), (h_x_ways_stock, .inl (cI, 16, .inl x_ways_stock)), (h_x_ways_weight, .inl (cI, 16, .inl x_ways_weight)), (h_x_ways_known, .inl (cI, 577, .inl x_ways_known)), (h_x_ways_found, .inl (cI, 6347, .inl x_ways_found)), (h_x_measured, .inr (0, [.int x_measured_which, .int x_measured_x, .int x_measured_y, .int x_measured_row, .int x_measured_table])), (h_x_pairCounts, .inl (cI, 16, .inl x_pairCounts))]) hc m_X5_52 (c_X5_within l D cI cS X F a2 (3 : Int32) hu4) [] (rmok_of (Nat.le_of_ble_eq_true rfl)) ⟨Nat.zero_le _, Nat.zero_le _⟩ rfl rfl rfl rfl rfl ⟨rfl, rfl, rfl⟩ dX5_measure_10 ?_
    refine G_if_eq (tgt := 24) hc dX5_measure_13 (by decide) (fun c12 => ?_) (fun c12 => ?_)
    · have h := ip h c12
      refine G_ldc (v := -1000001) hc k_X5_56 dX5_measure_24 ?_
      have h := Option.some.inj h
      subst h
      exact G_ireturn hc ⟨rfl, rfl⟩ dX5_measure_26
    · have h := inn h c12
      refine G_iload_n hc dX5_measure_16 rfl ?_
      refine G_iconst (v := 3) hc dX5_measure_17 (by decide) ?_
      obtain ⟨z5, hu6, h⟩ := ob h
      refine G_callSI (ws2 := [(h_x, .inr (5, [.ref h_x_now, .ref h_past, .int x_pastStates, .ref h_x_text, .ref h_x_trial, .ref h_x_ways, .ref h_x_measured, .ref h_x_pairCounts])), (h_x_now, .inr (1, [.int x_now_row, .int x_now_table, .int x_now_kept, .ref h_x_now_book])), (h_x_now_book, .inl (cI, 8, .inl x_now_book)), (h_x_text, .inr (2, [.ref h_x_text_signs, .int x_text_length, .int x_text_word, .int x_text_kind, .int x_text_number, .int x_text_row, .int x_text_reached, .int x_text_broken])), (h_x_text_signs, .inl (cI, 60, .inl x_text_signs)), (h_x_trial, .inr (3, [.ref h_x_trial_state, .int x_trial_orders, .int x_trial_position, .int x_trial_reason, .int x_trial_cause])), (h_x_trial_state, .inr (1, [.int x_trial_state_row, .int x_trial_state_table, .int x_trial_state_kept, .ref h_x_trial_state_book])), (h_x_trial_state_book, .inl (cI, 8, .inl x_trial_state_book)), (h_x_ways, .inr (4, [.ref h_x_ways_stock, .ref h_x_ways_weight, .ref h_x_ways_known, .ref h_x_ways_found, nv x_ways_measure h_x_measured, .int x_ways_values, .int x_ways_row, .int x_ways_rowCodes, .int x_ways_table, .int x_ways_length, .int x_ways_full, .int x_ways_pairs, .int x_ways_codes])), (h_x_ways_stock, .inl (cI, 16, .inl x_ways_stock)), (h_x_ways_weight, .inl (cI, 16, .inl x_ways_weight)), (h_x_ways_known, .inl (cI, 577, .inl x_ways_known)), (h_x_ways_found, .inl (cI, 6347, .inl x_ways_found)), (h_x_measured, .inr (0, [.int x_measured_which, .int x_measured_x, .int x_measured_y, .int x_measured_row, .int x_measured_table])), (h_x_pairCounts, .inl (cI, 16, .inl x_pairCounts))]) hc m_X5_52 (c_X5_within l D cI cS X F a3 (3 : Int32) hu6) [] (rmok_of (Nat.le_of_ble_eq_true rfl)) ⟨Nat.zero_le _, Nat.zero_le _⟩ rfl rfl rfl rfl rfl ⟨rfl, rfl, rfl⟩ dX5_measure_18 ?_
      refine G_if_ne (tgt := 27) hc dX5_measure_21 (by decide) (fun c11 => ?_) (fun c11 => ?_)
      · have h := inn h c11
        refine G_aload_n hc dX5_measure_27 rfl ?_
        refine G_get hc f_X5_44 0 rfl rfl dX5_measure_28 ?_
        refine G_iload_n hc dX5_measure_31 rfl ?_
        refine G_iload_n hc dX5_measure_32 rfl ?_
        refine G_iload_n hc dX5_measure_33 rfl ?_
        refine G_aload_n hc dX5_measure_34 rfl ?_
        refine G_get hc f_X5_10 0 rfl rfl dX5_measure_35 ?_
        obtain ⟨z7, hu8, h⟩ := ob h
        refine G_callVV (ws2 := [(h_x, .inr (5, [.ref h_x_now, .ref h_past, .int x_pastStates, .ref h_x_text, .ref h_x_trial, .ref h_x_ways, .ref h_x_measured, .ref h_x_pairCounts])), (h_x_now, .inr (1, [.int x_now_row, .int x_now_table, .int x_now_kept, .ref h_x_now_book])), (h_x_now_book, .inl (cI, 8, .inl x_now_book)), (h_x_text, .inr (2, [.ref h_x_text_signs, .int x_text_length, .int x_text_word, .int x_text_kind, .int x_text_number, .int x_text_row, .int x_text_reached, .int x_text_broken])), (h_x_text_signs, .inl (cI, 60, .inl x_text_signs)), (h_x_trial, .inr (3, [.ref h_x_trial_state, .int x_trial_orders, .int x_trial_position, .int x_trial_reason, .int x_trial_cause])), (h_x_trial_state, .inr (1, [.int x_trial_state_row, .int x_trial_state_table, .int x_trial_state_kept, .ref h_x_trial_state_book])), (h_x_trial_state_book, .inl (cI, 8, .inl x_trial_state_book)), (h_x_ways, .inr (4, [.ref h_x_ways_stock, .ref h_x_ways_weight, .ref h_x_ways_known, .ref h_x_ways_found, nv x_ways_measure h_x_measured, .int x_ways_values, .int x_ways_row, .int x_ways_rowCodes, .int x_ways_table, .int x_ways_length, .int x_ways_full, .int x_ways_pairs, .int x_ways_codes])), (h_x_ways_stock, .inl (cI, 16, .inl x_ways_stock)), (h_x_ways_weight, .inl (cI, 16, .inl x_ways_weight)), (h_x_ways_known, .inl (cI, 577, .inl x_ways_known)), (h_x_ways_found, .inl (cI, 6347, .inl x_ways_found)), (h_x_measured, .inr (0, [.int z7.1, .int z7.2.1, .int z7.2.2.1, .int z7.2.2.2.1, .int z7.2.2.2.2])), (h_x_pairCounts, .inl (cI, 16, .inl x_pairCounts))]) hc m_X5_124 (c_X0_set l D cI cS X F h_x_measured h_x_now h_x_now_book x_measured_which x_measured_x x_measured_y x_measured_row x_measured_table x_now_row x_now_table x_now_kept x_now_book a1 a2 a3 hu8) 13 [13, 1, 2] rfl rfl (rmok_of (Nat.le_of_ble_eq_true rfl)) ⟨Nat.zero_le _, Nat.zero_le _⟩ rfl rfl rfl rfl rfl ⟨rfl, rfl, rfl⟩ dX5_measure_38 ?_
        refine G_aload_n hc dX5_measure_41 rfl ?_
        refine G_get hc f_X5_44 0 rfl rfl dX5_measure_42 ?_
        obtain ⟨z9, hu10, h⟩ := ob h
        refine G_callVI (ws2 := [(h_x, .inr (5, [.ref h_x_now, .ref h_past, .int x_pastStates, .ref h_x_text, .ref h_x_trial, .ref h_x_ways, .ref h_x_measured, .ref h_x_pairCounts])), (h_x_now, .inr (1, [.int x_now_row, .int x_now_table, .int x_now_kept, .ref h_x_now_book])), (h_x_now_book, .inl (cI, 8, .inl x_now_book)), (h_x_text, .inr (2, [.ref h_x_text_signs, .int x_text_length, .int x_text_word, .int x_text_kind, .int x_text_number, .int x_text_row, .int x_text_reached, .int x_text_broken])), (h_x_text_signs, .inl (cI, 60, .inl x_text_signs)), (h_x_trial, .inr (3, [.ref h_x_trial_state, .int x_trial_orders, .int x_trial_position, .int x_trial_reason, .int x_trial_cause])), (h_x_trial_state, .inr (1, [.int x_trial_state_row, .int x_trial_state_table, .int x_trial_state_kept, .ref h_x_trial_state_book])), (h_x_trial_state_book, .inl (cI, 8, .inl x_trial_state_book)), (h_x_ways, .inr (4, [.ref h_x_ways_stock, .ref h_x_ways_weight, .ref h_x_ways_known, .ref h_x_ways_found, nv x_ways_measure h_x_measured, .int x_ways_values, .int x_ways_row, .int x_ways_rowCodes, .int x_ways_table, .int x_ways_length, .int x_ways_full, .int x_ways_pairs, .int x_ways_codes])), (h_x_ways_stock, .inl (cI, 16, .inl x_ways_stock)), (h_x_ways_weight, .inl (cI, 16, .inl x_ways_weight)), (h_x_ways_known, .inl (cI, 577, .inl x_ways_known)), (h_x_ways_found, .inl (cI, 6347, .inl x_ways_found)), (h_x_measured, .inr (0, [.int z7.1, .int z7.2.1, .int z7.2.2.1, .int z7.2.2.2.1, .int z7.2.2.2.2])), (h_x_pairCounts, .inl (cI, 16, .inl x_pairCounts))]) hc m_X5_128 (c_X0_ofRow l D cI cS X F h_x_measured z7.1 z7.2.1 z7.2.2.1 z7.2.2.2.1 z7.2.2.2.2 hu10) 13 [13] rfl rfl (rmok_of (Nat.le_of_ble_eq_true rfl)) ⟨Nat.zero_le _, Nat.zero_le _⟩ rfl rfl rfl rfl rfl ⟨rfl, rfl, rfl⟩ dX5_measure_45 ?_
        have h := Option.some.inj h
        subst h
        exact G_ireturn hc ⟨rfl, rfl⟩ dX5_measure_48
      · have h := ip h c11
        refine G_ldc (v := -1000001) hc k_X5_56 dX5_measure_24 ?_
        have h := Option.some.inj h
        subst h
        exact G_ireturn hc ⟨rfl, rfl⟩ dX5_measure_26
