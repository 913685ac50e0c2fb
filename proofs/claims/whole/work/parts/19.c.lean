set_option maxHeartbeats 4000000 in
set_option maxRecDepth 100000 in
theorem c_X5_fault (l : Launch) (D : va_G) (cI cS : ClassId) (X : XP) (F : Nat) (h_x h_x_now h_x_now_book h_x_text h_x_text_signs h_x_trial h_x_trial_state h_x_trial_state_book h_x_ways h_x_ways_stock h_x_ways_weight h_x_ways_known h_x_ways_found h_x_measured h_x_pairCounts h_past : Nat) (x_pastStates : Int32) (x_now_row : Int32) (x_now_table : Int32) (x_now_kept : Int32) (x_now_book : Nat → Int32) (x_text_length : Int32) (x_text_word : Int32) (x_text_kind : Int32) (x_text_number : Int32) (x_text_row : Int32) (x_text_reached : Int32) (x_text_broken : Int32) (x_text_signs : Nat → Int32) (x_trial_orders : Int32) (x_trial_position : Int32) (x_trial_reason : Int32) (x_trial_cause : Int32) (x_trial_state_row : Int32) (x_trial_state_table : Int32) (x_trial_state_kept : Int32) (x_trial_state_book : Nat → Int32) (x_ways_measure : Bool) (x_ways_values : Int32) (x_ways_row : Int32) (x_ways_rowCodes : Int32) (x_ways_table : Int32) (x_ways_length : Int32) (x_ways_full : Int32) (x_ways_pairs : Int32) (x_ways_codes : Int32) (x_ways_stock : Nat → Int32) (x_ways_weight : Nat → Int32) (x_ways_known : Nat → Int32) (x_ways_found : Nat → Int32) (x_measured_which : Int32) (x_measured_x : Int32) (x_measured_y : Int32) (x_measured_row : Int32) (x_measured_table : Int32) (x_pairCounts : Nat → Int32) (a1 : Int32) {res : Int32 × Int32 × Int32 × Int32 × Int32 × Int32 × Int32 × Int32 × Int32 × Int32 × Int32 × Int32 × Int32 × Int32 × (Nat → Int32) × Bool × Int32 × Int32 × Int32 × Int32 × Int32 × Int32 × Int32 × Int32 × (Nat → Int32) × (Nat → Int32) × (Nat → Int32) × (Nat → Int32)} (h : f_X5_fault F x_now_row x_now_table x_now_kept x_now_book x_text_length x_text_word x_text_kind x_text_number x_text_row x_text_reached x_text_broken x_text_signs x_trial_orders x_trial_position x_trial_reason x_trial_cause x_trial_state_row x_trial_state_table x_trial_state_kept x_trial_state_book x_ways_measure x_ways_values x_ways_row x_ways_rowCodes x_ways_table x_ways_length x_ways_full x_ways_pairs x_ways_codes x_ways_stock x_ways_weight x_ways_known x_ways_found x_measured_which x_measured_x x_measured_y x_measured_row x_measured_table a1 = some res) : CtI l D cI cS X yX5_fault cX5_fault 2 (some .int) 20 [.ref h_x, .int a1] [(h_x, .inr (5, [.ref h_x_now, .ref h_past, .int x_pastStates, .ref h_x_text, .ref h_x_trial, .ref h_x_ways, .ref h_x_measured, .ref h_x_pairCounts])), (h_x_now, .inr (1, [.int x_now_row, .int x_now_table, .int x_now_kept, .ref h_x_now_book])), (h_x_now_book, .inl (cI, 8, .inl x_now_book)), (h_x_text, .inr (2, [.ref h_x_text_signs, .int x_text_length, .int x_text_word, .int x_text_kind, .int x_text_number, .int x_text_row, .int x_text_reached, .int x_text_broken])), (h_x_text_signs, .inl (cI, 60, .inl x_text_signs)), (h_x_trial, .inr (3, [.ref h_x_trial_state, .int x_trial_orders, .int x_trial_position, .int x_trial_reason, .int x_trial_cause])), (h_x_trial_state, .inr (1, [.int x_trial_state_row, .int x_trial_state_table, .int x_trial_state_kept, .ref h_x_trial_state_book])), (h_x_trial_state_book, .inl (cI, 8, .inl x_trial_state_book)), (h_x_ways, .inr (4, [.ref h_x_ways_stock, .ref h_x_ways_weight, .ref h_x_ways_known, .ref h_x_ways_found, nv x_ways_measure h_x_measured, .int x_ways_values, .int x_ways_row, .int x_ways_rowCodes, .int x_ways_table, .int x_ways_length, .int x_ways_full, .int x_ways_pairs, .int x_ways_codes])), (h_x_ways_stock, .inl (cI, 16, .inl x_ways_stock)), (h_x_ways_weight, .inl (cI, 16, .inl x_ways_weight)), (h_x_ways_known, .inl (cI, 577, .inl x_ways_known)), (h_x_ways_found, .inl (cI, 6347, .inl x_ways_found)), (h_x_measured, .inr (0, [.int x_measured_which, .int x_measured_x, .int x_measured_y, .int x_measured_row, .int x_measured_table])), (h_x_pairCounts, .inl (cI, 16, .inl x_pairCounts))] (PoI res.1 [(h_x, .inr (5, [.ref h_x_now, .ref h_past, .int x_pastStates, .ref h_x_text, .ref h_x_trial, .ref h_x_ways, .ref h_x_measured, .ref h_x_pairCounts])), (h_x_now, .inr (1, [.int x_now_row, .int x_now_table, .int x_now_kept, .ref h_x_now_book])), (h_x_now_book, .inl (cI, 8, .inl x_now_book)), (h_x_text, .inr (2, [.ref h_x_text_signs, .int x_text_length, .int res.2.1, .int res.2.2.1, .int res.2.2.2.1, .int res.2.2.2.2.1, .int res.2.2.2.2.2.1, .int res.2.2.2.2.2.2.1])), (h_x_text_signs, .inl (cI, 60, .inl x_text_signs)), (h_x_trial, .inr (3, [.ref h_x_trial_state, .int res.2.2.2.2.2.2.2.1, .int res.2.2.2.2.2.2.2.2.1, .int res.2.2.2.2.2.2.2.2.2.1, .int res.2.2.2.2.2.2.2.2.2.2.1])), (h_x_trial_state, .inr (1, [.int res.2.2.2.2.2.2.2.2.2.2.2.1, .int res.2.2.2.2.2.2.2.2.2.2.2.2.1, .int res.2.2.2.2.2.2.2.2.2.2.2.2.2.1, .ref h_x_trial_state_book])), (h_x_trial_state_book, .inl (cI, 8, .inl res.2.2.2.2.2.2.2.2.2.2.2.2.2.2.1)), (h_x_ways, .inr (4, [.ref h_x_ways_stock, .ref h_x_ways_weight, .ref h_x_ways_known, .ref h_x_ways_found, nv res.2.2.2.2.2.2.2.2.2.2.2.2.2.2.2.1 h_x_measured, .int res.2.2.2.2.2.2.2.2.2.2.2.2.2.2.2.2.1, .int res.2.2.2.2.2.2.2.2.2.2.2.2.2.2.2.2.2.1, .int res.2.2.2.2.2.2.2.2.2.2.2.2.2.2.2.2.2.2.1, .int res.2.2.2.2.2.2.2.2.2.2.2.2.2.2.2.2.2.2.2.1, .int res.2.2.2.2.2.2.2.2.2.2.2.2.2.2.2.2.2.2.2.2.1, .int res.2.2.2.2.2.2.2.2.2.2.2.2.2.2.2.2.2.2.2.2.2.1, .int res.2.2.2.2.2.2.2.2.2.2.2.2.2.2.2.2.2.2.2.2.2.2.1, .int res.2.2.2.2.2.2.2.2.2.2.2.2.2.2.2.2.2.2.2.2.2.2.2.1])), (h_x_ways_stock, .inl (cI, 16, .inl res.2.2.2.2.2.2.2.2.2.2.2.2.2.2.2.2.2.2.2.2.2.2.2.2.1)), (h_x_ways_weight, .inl (cI, 16, .inl res.2.2.2.2.2.2.2.2.2.2.2.2.2.2.2.2.2.2.2.2.2.2.2.2.2.1)), (h_x_ways_known, .inl (cI, 577, .inl res.2.2.2.2.2.2.2.2.2.2.2.2.2.2.2.2.2.2.2.2.2.2.2.2.2.2.1)), (h_x_ways_found, .inl (cI, 6347, .inl res.2.2.2.2.2.2.2.2.2.2.2.2.2.2.2.2.2.2.2.2.2.2.2.2.2.2.2)), (h_x_measured, .inr (0, [.int x_measured_which, .int x_measured_x, .int x_measured_y, .int x_measured_row, .int x_measured_table])), (h_x_pairCounts, .inl (cI, 16, .inl x_pairCounts))]) := by
  refine CtI.of (by decide +kernel) rfl ?_
  intro p e s m below meth c A hc
  refine G_lv (lv' := [(0, .ref h_x), (1, .int a1)]) (lsame_cons rfl (lsame_cons rfl lsame_nil)) ?_
  unfold f_X5_fault at h
  refine G_iload_n hc dX5_fault_0 rfl ?_
  refine G_iconst (v := 2) hc dX5_fault_1 (by decide) ?_
  obtain ⟨z1, hu2, h⟩ := ob h
  refine G_callSI (ws2 := [(h_x, .inr (5, [.ref h_x_now, .ref h_past, .int x_pastStates, .ref h_x_text, .ref h_x_trial, .ref h_x_ways, .ref h_x_measured, .ref h_x_pairCounts])), (h_x_now, .inr (1, [.int x_now_row, .int x_now_table, .int x_now_kept, .ref h_x_now_book])), (h_x_now_book, .inl (cI, 8, .inl x_now_book)), (h_x_text, .inr (2, [.ref h_x_text_signs, .int x_text_length, .int x_text_word, .int x_text_kind, .int x_text_number, .int x_text_row, .int x_text_reached, .int x_text_broken])), (h_x_text_signs, .inl (cI, 60, .inl x_text_signs)), (h_x_trial, .inr (3, [.ref h_x_trial_state, .int x_trial_orders, .int x_trial_position, .int x_trial_reason, .int x_trial_cause])), (h_x_trial_state, .inr (1, [.int x_trial_state_row, .int x_trial_state_table, .int x_trial_state_kept, .ref h_x_trial_state_book])), (h_x_trial_state_book, .inl (cI, 8, .inl x_trial_state_book)), (h_x_ways, .inr (4, [.ref h_x_ways_stock, .ref h_x_ways_weight, .ref h_x_ways_known, .ref h_x_ways_found, nv x_ways_measure h_x_measured, .int x_ways_values, .int x_ways_row, .int x_ways_rowCodes, .int x_ways_table, .int x_ways_length, .int x_ways_full, .int x_ways_pairs, .int x_ways_codes])), (h_x_ways_stock, .inl (cI, 16, .inl x_ways_stock)), (h_x_ways_weight, .inl (cI, 16, .inl x_ways_weight)), (h_x_ways_known, .inl (cI, 577, .inl x_ways_known)), (h_x_ways_found, .inl (cI, 6347, .inl x_ways_found)), (h_x_measured, .inr (0, [.int x_measured_which, .int x_measured_x, .int x_measured_y, .int x_measured_row, .int x_measured_table])), (h_x_pairCounts, .inl (cI, 16, .inl x_pairCounts))]) hc m_X5_52 (c_X5_within l D cI cS X F a1 (2 : Int32) hu2) [] (rmok_of (Nat.le_of_ble_eq_true rfl)) ⟨Nat.zero_le _, Nat.zero_le _⟩ rfl rfl rfl rfl rfl ⟨rfl, rfl, rfl⟩ dX5_fault_2 ?_
  refine G_if_ne (tgt := 11) hc dX5_fault_5 (by decide) (fun c18 => ?_) (fun c18 => ?_)
  · have h := inn h c18
    refine G_aload_n hc dX5_fault_11 rfl ?_
    refine G_get hc f_X5_30 0 rfl rfl dX5_fault_12 ?_
    refine G_aload_n hc dX5_fault_15 rfl ?_
    refine G_get hc f_X5_10 0 rfl rfl dX5_fault_16 ?_
    refine G_aload_n hc dX5_fault_19 rfl ?_
    refine G_get hc f_X5_23 0 rfl rfl dX5_fault_20 ?_
    refine G_aload_n hc dX5_fault_23 rfl ?_
    refine G_get hc f_X5_37 0 rfl rfl dX5_fault_24 ?_
    obtain ⟨z3, hu4, h⟩ := ob h
    refine G_callVV (ws2 := [(h_x, .inr (5, [.ref h_x_now, .ref h_past, .int x_pastStates, .ref h_x_text, .ref h_x_trial, .ref h_x_ways, .ref h_x_measured, .ref h_x_pairCounts])), (h_x_now, .inr (1, [.int x_now_row, .int x_now_table, .int x_now_kept, .ref h_x_now_book])), (h_x_now_book, .inl (cI, 8, .inl x_now_book)), (h_x_text, .inr (2, [.ref h_x_text_signs, .int x_text_length, .int z3.2.2.2.2.2.2.2.2.1, .int z3.2.2.2.2.2.2.2.2.2.1, .int z3.2.2.2.2.2.2.2.2.2.2.1, .int z3.2.2.2.2.2.2.2.2.2.2.2.1, .int z3.2.2.2.2.2.2.2.2.2.2.2.2.1, .int z3.2.2.2.2.2.2.2.2.2.2.2.2.2.1])), (h_x_text_signs, .inl (cI, 60, .inl x_text_signs)), (h_x_trial, .inr (3, [.ref h_x_trial_state, .int z3.1, .int z3.2.1, .int z3.2.2.1, .int z3.2.2.2.1])), (h_x_trial_state, .inr (1, [.int z3.2.2.2.2.1, .int z3.2.2.2.2.2.1, .int z3.2.2.2.2.2.2.1, .ref h_x_trial_state_book])), (h_x_trial_state_book, .inl (cI, 8, .inl z3.2.2.2.2.2.2.2.1)), (h_x_ways, .inr (4, [.ref h_x_ways_stock, .ref h_x_ways_weight, .ref h_x_ways_known, .ref h_x_ways_found, nv z3.2.2.2.2.2.2.2.2.2.2.2.2.2.2.1 h_x_measured, .int z3.2.2.2.2.2.2.2.2.2.2.2.2.2.2.2.1, .int z3.2.2.2.2.2.2.2.2.2.2.2.2.2.2.2.2.1, .int z3.2.2.2.2.2.2.2.2.2.2.2.2.2.2.2.2.2.1, .int z3.2.2.2.2.2.2.2.2.2.2.2.2.2.2.2.2.2.2.1, .int z3.2.2.2.2.2.2.2.2.2.2.2.2.2.2.2.2.2.2.2.1, .int z3.2.2.2.2.2.2.2.2.2.2.2.2.2.2.2.2.2.2.2.2.1, .int z3.2.2.2.2.2.2.2.2.2.2.2.2.2.2.2.2.2.2.2.2.2.1, .int z3.2.2.2.2.2.2.2.2.2.2.2.2.2.2.2.2.2.2.2.2.2.2.1])), (h_x_ways_stock, .inl (cI, 16, .inl z3.2.2.2.2.2.2.2.2.2.2.2.2.2.2.2.2.2.2.2.2.2.2.2.1)), (h_x_ways_weight, .inl (cI, 16, .inl z3.2.2.2.2.2.2.2.2.2.2.2.2.2.2.2.2.2.2.2.2.2.2.2.2.1)), (h_x_ways_known, .inl (cI, 577, .inl z3.2.2.2.2.2.2.2.2.2.2.2.2.2.2.2.2.2.2.2.2.2.2.2.2.2.1)), (h_x_ways_found, .inl (cI, 6347, .inl z3.2.2.2.2.2.2.2.2.2.2.2.2.2.2.2.2.2.2.2.2.2.2.2.2.2.2)), (h_x_measured, .inr (0, [.int x_measured_which, .int x_measured_x, .int x_measured_y, .int x_measured_row, .int x_measured_table])), (h_x_pairCounts, .inl (cI, 16, .inl x_pairCounts))]) hc m_X5_189 (c_X3_run l D cI cS X F h_x_trial h_x_trial_state h_x_trial_state_book h_x_now h_x_now_book h_x_text h_x_text_signs h_x_ways h_x_ways_stock h_x_ways_weight h_x_ways_known h_x_ways_found h_x_measured x_trial_orders x_trial_position x_trial_reason x_trial_cause x_trial_state_row x_trial_state_table x_trial_state_kept x_trial_state_book x_now_row x_now_table x_now_kept x_now_book x_text_length x_text_word x_text_kind x_text_number x_text_row x_text_reached x_text_broken x_text_signs x_ways_measure x_ways_values x_ways_row x_ways_rowCodes x_ways_table x_ways_length x_ways_full x_ways_pairs x_ways_codes x_ways_stock x_ways_weight x_ways_known x_ways_found x_measured_which x_measured_x x_measured_y x_measured_row x_measured_table hu4) 5 [5, 6, 7, 1, 2, 3, 4, 8, 9, 10, 11, 12, 13] rfl rfl (rmok_of (Nat.le_of_ble_eq_true rfl)) ⟨Nat.zero_le _, Nat.zero_le _⟩ rfl rfl rfl rfl rfl ⟨rfl, rfl, rfl⟩ dX5_fault_27 ?_
    refine G_aload_n hc dX5_fault_30 rfl ?_
    refine G_get hc f_X5_30 0 rfl rfl dX5_fault_31 ?_
    refine G_get hc f_X5_193 5 rfl rfl dX5_fault_34 ?_
    refine G_if_eq (tgt := 56) hc dX5_fault_37 (by decide) (fun c17 => ?_) (fun c17 => ?_)
    · have h := ip h c17
      refine G_ldc (v := -1000004) hc k_X5_91 dX5_fault_56 ?_
      have h := Option.some.inj h
      subst h
      exact G_ireturn hc ⟨rfl, rfl⟩ dX5_fault_58
    · have h := inn h c17
      refine G_iload_n hc dX5_fault_40 rfl ?_
      refine G_iconst (v := 2) hc dX5_fault_41 (by decide) ?_
      refine G_icmp_ne (tgt := 59) hc dX5_fault_42 (by decide) (fun c16 => ?_) (fun c16 => ?_)
      · have h := inn h c16
        refine G_iload_n hc dX5_fault_59 rfl ?_
        refine G_if_ne (tgt := 71) hc dX5_fault_60 (by decide) (fun c9 => ?_) (fun c9 => ?_)
        · have h := inn h c9
          refine G_iload_n hc dX5_fault_71 rfl ?_
          refine G_iconst (v := 1) hc dX5_fault_72 (by decide) ?_
          obtain ⟨t5, hr7, h⟩ := ob h
          have hj6 : G p l e (rmk 20) s m [.ref h_x, .int a1].toArray below meth c D A 2 0 0 (QI below [.ref h_x, .int a1].toArray s D A (PoI res.1 [(h_x, .inr (5, [.ref h_x_now, .ref h_past, .int x_pastStates, .ref h_x_text, .ref h_x_trial, .ref h_x_ways, .ref h_x_measured, .ref h_x_pairCounts])), (h_x_now, .inr (1, [.int x_now_row, .int x_now_table, .int x_now_kept, .ref h_x_now_book])), (h_x_now_book, .inl (cI, 8, .inl x_now_book)), (h_x_text, .inr (2, [.ref h_x_text_signs, .int x_text_length, .int res.2.1, .int res.2.2.1, .int res.2.2.2.1, .int res.2.2.2.2.1, .int res.2.2.2.2.2.1, .int res.2.2.2.2.2.2.1])), (h_x_text_signs, .inl (cI, 60, .inl x_text_signs)), (h_x_trial, .inr (3, [.ref h_x_trial_state, .int res.2.2.2.2.2.2.2.1, .int res.2.2.2.2.2.2.2.2.1, .int res.2.2.2.2.2.2.2.2.2.1, .int res.2.2.2.2.2.2.2.2.2.2.1])), (h_x_trial_state, .inr (1, [.int res.2.2.2.2.2.2.2.2.2.2.2.1, .int res.2.2.2.2.2.2.2.2.2.2.2.2.1, .int res.2.2.2.2.2.2.2.2.2.2.2.2.2.1, .ref h_x_trial_state_book])), (h_x_trial_state_book, .inl (cI, 8, .inl res.2.2.2.2.2.2.2.2.2.2.2.2.2.2.1)), (h_x_ways, .inr (4, [.ref h_x_ways_stock, .ref h_x_ways_weight, .ref h_x_ways_known, .ref h_x_ways_found, nv res.2.2.2.2.2.2.2.2.2.2.2.2.2.2.2.1 h_x_measured, .int res.2.2.2.2.2.2.2.2.2.2.2.2.2.2.2.2.1, .int res.2.2.2.2.2.2.2.2.2.2.2.2.2.2.2.2.2.1, .int res.2.2.2.2.2.2.2.2.2.2.2.2.2.2.2.2.2.2.1, .int res.2.2.2.2.2.2.2.2.2.2.2.2.2.2.2.2.2.2.2.1, .int res.2.2.2.2.2.2.2.2.2.2.2.2.2.2.2.2.2.2.2.2.1, .int res.2.2.2.2.2.2.2.2.2.2.2.2.2.2.2.2.2.2.2.2.2.1, .int res.2.2.2.2.2.2.2.2.2.2.2.2.2.2.2.2.2.2.2.2.2.2.1, .int res.2.2.2.2.2.2.2.2.2.2.2.2.2.2.2.2.2.2.2.2.2.2.2.1])), (h_x_ways_stock, .inl (cI, 16, .inl res.2.2.2.2.2.2.2.2.2.2.2.2.2.2.2.2.2.2.2.2.2.2.2.2.1)), (h_x_ways_weight, .inl (cI, 16, .inl res.2.2.2.2.2.2.2.2.2.2.2.2.2.2.2.2.2.2.2.2.2.2.2.2.2.1)), (h_x_ways_known, .inl (cI, 577, .inl res.2.2.2.2.2.2.2.2.2.2.2.2.2.2.2.2.2.2.2.2.2.2.2.2.2.2.1)), (h_x_ways_found, .inl (cI, 6347, .inl res.2.2.2.2.2.2.2.2.2.2.2.2.2.2.2.2.2.2.2.2.2.2.2.2.2.2.2)), (h_x_measured, .inr (0, [.int x_measured_which, .int x_measured_x, .int x_measured_y, .int x_measured_row, .int x_measured_table])), (h_x_pairCounts, .inl (cI, 16, .inl x_pairCounts))])) [(h_x, .inr (5, [.ref h_x_now, .ref h_past, .int x_pastStates, .ref h_x_text, .ref h_x_trial, .ref h_x_ways, .ref h_x_measured, .ref h_x_pairCounts])), (h_x_now, .inr (1, [.int x_now_row, .int x_now_table, .int x_now_kept, .ref h_x_now_book])), (h_x_now_book, .inl (cI, 8, .inl x_now_book)), (h_x_text, .inr (2, [.ref h_x_text_signs, .int x_text_length, .int z3.2.2.2.2.2.2.2.2.1, .int z3.2.2.2.2.2.2.2.2.2.1, .int z3.2.2.2.2.2.2.2.2.2.2.1, .int z3.2.2.2.2.2.2.2.2.2.2.2.1, .int z3.2.2.2.2.2.2.2.2.2.2.2.2.1, .int z3.2.2.2.2.2.2.2.2.2.2.2.2.2.1])), (h_x_text_signs, .inl (cI, 60, .inl x_text_signs)), (h_x_trial, .inr (3, [.ref h_x_trial_state, .int z3.1, .int z3.2.1, .int z3.2.2.1, .int z3.2.2.2.1])), (h_x_trial_state, .inr (1, [.int z3.2.2.2.2.1, .int z3.2.2.2.2.2.1, .int z3.2.2.2.2.2.2.1, .ref h_x_trial_state_book])), (h_x_trial_state_book, .inl (cI, 8, .inl z3.2.2.2.2.2.2.2.1)), (h_x_ways, .inr (4, [.ref h_x_ways_stock, .ref h_x_ways_weight, .ref h_x_ways_known, .ref h_x_ways_found, nv z3.2.2.2.2.2.2.2.2.2.2.2.2.2.2.1 h_x_measured, .int z3.2.2.2.2.2.2.2.2.2.2.2.2.2.2.2.1, .int z3.2.2.2.2.2.2.2.2.2.2.2.2.2.2.2.2.1, .int z3.2.2.2.2.2.2.2.2.2.2.2.2.2.2.2.2.2.1, .int z3.2.2.2.2.2.2.2.2.2.2.2.2.2.2.2.2.2.2.1, .int z3.2.2.2.2.2.2.2.2.2.2.2.2.2.2.2.2.2.2.2.1, .int z3.2.2.2.2.2.2.2.2.2.2.2.2.2.2.2.2.2.2.2.2.1, .int z3.2.2.2.2.2.2.2.2.2.2.2.2.2.2.2.2.2.2.2.2.2.1, .int z3.2.2.2.2.2.2.2.2.2.2.2.2.2.2.2.2.2.2.2.2.2.2.1])), (h_x_ways_stock, .inl (cI, 16, .inl z3.2.2.2.2.2.2.2.2.2.2.2.2.2.2.2.2.2.2.2.2.2.2.2.1)), (h_x_ways_weight, .inl (cI, 16, .inl z3.2.2.2.2.2.2.2.2.2.2.2.2.2.2.2.2.2.2.2.2.2.2.2.2.1)), (h_x_ways_known, .inl (cI, 577, .inl z3.2.2.2.2.2.2.2.2.2.2.2.2.2.2.2.2.2.2.2.2.2.2.2.2.2.1)), (h_x_ways_found, .inl (cI, 6347, .inl z3.2.2.2.2.2.2.2.2.2.2.2.2.2.2.2.2.2.2.2.2.2.2.2.2.2.2)), (h_x_measured, .inr (0, [.int x_measured_which, .int x_measured_x, .int x_measured_y, .int x_measured_row, .int x_measured_table])), (h_x_pairCounts, .inl (cI, 16, .inl x_pairCounts))] [] 93 [.int t5] := by
            have h := Option.some.inj h
            subst h
            exact G_ireturn hc ⟨rfl, rfl⟩ dX5_fault_93
          clear h
          have h := hr7
          clear hr7
          refine G_icmp_ne (tgt := 86) hc dX5_fault_73 (by decide) (fun c8 => ?_) (fun c8 => ?_)
          · have h := inn h c8
            refine G_aload_n hc dX5_fault_86 rfl ?_
            refine G_get hc f_X5_30 0 rfl rfl dX5_fault_87 ?_
            refine G_get hc f_X5_199 5 rfl rfl dX5_fault_90 ?_
            have h := Option.some.inj h
            subst h
            refine G_lv (lv' := []) lsame_nil ?_
            exact hj6
          · have h := ip h c8
            refine G_aload_n hc dX5_fault_76 rfl ?_
            refine G_get hc f_X5_30 0 rfl rfl dX5_fault_77 ?_
            refine G_get hc f_X5_193 5 rfl rfl dX5_fault_80 ?_
            refine G_goto (tgt := 93) hc dX5_fault_83 (by decide) ?_
            have h := Option.some.inj h
            subst h
            refine G_lv (lv' := []) lsame_nil ?_
            exact hj6
        · have h := ip h c9
          refine G_aload_n hc dX5_fault_63 rfl ?_
          refine G_get hc f_X5_30 0 rfl rfl dX5_fault_64 ?_
          refine G_get hc f_X5_196 5 rfl rfl dX5_fault_67 ?_
          have h := Option.some.inj h
          subst h
          exact G_ireturn hc ⟨rfl, rfl⟩ dX5_fault_70
      · have h := ip h c16
        refine G_aload_n hc dX5_fault_45 rfl ?_
        refine G_get hc f_X5_30 0 rfl rfl dX5_fault_46 ?_
        refine G_get hc f_X5_193 5 rfl rfl dX5_fault_49 ?_
        refine G_iconst (v := 2) hc dX5_fault_52 (by decide) ?_
        refine G_icmp_ne (tgt := 59) hc dX5_fault_53 (by decide) (fun c15 => ?_) (fun c15 => ?_)
        · have h := inn h c15
          refine G_iload_n hc dX5_fault_59 rfl ?_
          refine G_if_ne (tgt := 71) hc dX5_fault_60 (by decide) (fun c14 => ?_) (fun c14 => ?_)
          · have h := inn h c14
            refine G_iload_n hc dX5_fault_71 rfl ?_
            refine G_iconst (v := 1) hc dX5_fault_72 (by decide) ?_
            obtain ⟨t10, hr12, h⟩ := ob h
            have hj11 : G p l e (rmk 20) s m [.ref h_x, .int a1].toArray below meth c D A 2 0 0 (QI below [.ref h_x, .int a1].toArray s D A (PoI res.1 [(h_x, .inr (5, [.ref h_x_now, .ref h_past, .int x_pastStates, .ref h_x_text, .ref h_x_trial, .ref h_x_ways, .ref h_x_measured, .ref h_x_pairCounts])), (h_x_now, .inr (1, [.int x_now_row, .int x_now_table, .int x_now_kept, .ref h_x_now_book])), (h_x_now_book, .inl (cI, 8, .inl x_now_book)), (h_x_text, .inr (2, [.ref h_x_text_signs, .int x_text_length, .int res.2.1, .int res.2.2.1, .int res.2.2.2.1, .int res.2.2.2.2.1, .int res.2.2.2.2.2.1, .int res.2.2.2.2.2.2.1])), (h_x_text_signs, .inl (cI, 60, .inl x_text_signs)), (h_x_trial, .inr (3, [.ref h_x_trial_state, .int res.2.2.2.2.2.2.2.1, .int res.2.2.2.2.2.2.2.2.1, .int res.2.2.2.2.2.2.2.2.2.1, .int res.2.2.2.2.2.2.2.2.2.2.1])), (h_x_trial_state, .inr (1, [.int res.2.2.2.2.2.2.2.2.2.2.2.1, .int res.2.2.2.2.2.2.2.2.2.2.2.2.1, .int res.2.2.2.2.2.2.2.2.2.2.2.2.2.1, .ref h_x_trial_state_book])), (h_x_trial_state_book, .inl (cI, 8, .inl res.2.2.2.2.2.2.2.2.2.2.2.2.2.2.1)), (h_x_ways, .inr (4, [.ref h_x_ways_stock, .ref h_x_ways_weight, .ref h_x_ways_known, .ref h_x_ways_found, nv res.2.2.2.2.2.2.2.2.2.2.2.2.2.2.2.1 h_x_measured, .int res.2.2.2.2.2.2.2.2.2.2.2.2.2.2.2.2.1, .int res.2.2.2.2.2.2.2.2.2.2.2.2.2.2.2.2.2.1, .int res.2.2.2.2.2.2.2.2.2.2.2.2.2.2.2.2.2.2.1, .int res.2.2.2.2.2.2.2.2.2.2.2.2.2.2.2.2.2.2.2.1, .int res.2.2.2.2.2.2.2.2.2.2.2.2.2.2.2.2.2.2.2.2.1, .int res.2.2.2.2.2.2.2.2.2.2.2.2.2.2.2.2.2.2.2.2.2.1, .int res.2.2.2.2.2.2.2.2.2.2.2.2.2.2.2.2.2.2.2.2.2.2.1, .int res.2.2.2.2.2.2.2.2.2.2.2.2.2.2.2.2.2.2.2.2.2.2.2.1])), (h_x_ways_stock, .inl (cI, 16, .inl res.2.2.2.2.2.2.2.2.2.2.2.2.2.2.2.2.2.2.2.2.2.2.2.2.1)), (h_x_ways_weight, .inl (cI, 16, .inl res.2.2.2.2.2.2.2.2.2.2.2.2.2.2.2.2.2.2.2.2.2.2.2.2.2.1)), (h_x_ways_known, .inl (cI, 577, .inl res.2.2.2.2.2.2.2.2.2.2.2.2.2.2.2.2.2.2.2.2.2.2.2.2.2.2.1)), (h_x_ways_found, .inl (cI, 6347, .inl res.2.2.2.2.2.2.2.2.2.2.2.2.2.2.2.2.2.2.2.2.2.2.2.2.2.2.2)), (h_x_measured, .inr (0, [.int x_measured_which, .int x_measured_x, .int x_measured_y, .int x_measured_row, .int x_measured_table])), (h_x_pairCounts, .inl (cI, 16, .inl x_pairCounts))])) [(h_x, .inr (5, [.ref h_x_now, .ref h_past, .int x_pastStates, .ref h_x_text, .ref h_x_trial, .ref h_x_ways, .ref h_x_measured, .ref h_x_pairCounts])), (h_x_now, .inr (1, [.int x_now_row, .int x_now_table, .int x_now_kept, .ref h_x_now_book])), (h_x_now_book, .inl (cI, 8, .inl x_now_book)), (h_x_text, .inr (2, [.ref h_x_text_signs, .int x_text_length, .int z3.2.2.2.2.2.2.2.2.1, .int z3.2.2.2.2.2.2.2.2.2.1, .int z3.2.2.2.2.2.2.2.2.2.2.1, .int z3.2.2.2.2.2.2.2.2.2.2.2.1, .int z3.2.2.2.2.2.2.2.2.2.2.2.2.1, .int z3.2.2.2.2.2.2.2.2.2.2.2.2.2.1])), (h_x_text_signs, .inl (cI, 60, .inl x_text_signs)), (h_x_trial, .inr (3, [.ref h_x_trial_state, .int z3.1, .int z3.2.1, .int z3.2.2.1, .int z3.2.2.2.1])), (h_x_trial_state, .inr (1, [.int z3.2.2.2.2.1, .int z3.2.2.2.2.2.1, .int z3.2.2.2.2.2.2.1, .ref h_x_trial_state_book])), (h_x_trial_state_book, .inl (cI, 8, .inl z3.2.2.2.2.2.2.2.1)), (h_x_ways, .inr (4, [.ref h_x_ways_stock, .ref h_x_ways_weight, .ref h_x_ways_known, .ref h_x_ways_found, nv z3.2.2.2.2.2.2.2.2.2.2.2.2.2.2.1 h_x_measured, .int z3.2.2.2.2.2.2.2.2.2.2.2.2.2.2.2.1, .int z3.2.2.2.2.2.2.2.2.2.2.2.2.2.2.2.2.1, .int z3.2.2.2.2.2.2.2.2.2.2.2.2.2.2.2.2.2.1, .int z3.2.2.2.2.2.2.2.2.2.2.2.2.2.2.2.2.2.2.1, .int z3.2.2.2.2.2.2.2.2.2.2.2.2.2.2.2.2.2.2.2.1, .int z3.2.2.2.2.2.2.2.2.2.2.2.2.2.2.2.2.2.2.2.2.1, .int z3.2.2.2.2.2.2.2.2.2.2.2.2.2.2.2.2.2.2.2.2.2.1, .int z3.2.2.2.2.2.2.2.2.2.2.2.2.2.2.2.2.2.2.2.2.2.2.1])), (h_x_ways_stock, .inl (cI, 16, .inl z3.2.2.2.2.2.2.2.2.2.2.2.2.2.2.2.2.2.2.2.2.2.2.2.1)), (h_x_ways_weight, .inl (cI, 16, .inl z3.2.2.2.2.2.2.2.2.2.2.2.2.2.2.2.2.2.2.2.2.2.2.2.2.1)), (h_x_ways_known, .inl (cI, 577, .inl z3.2.2.2.2.2.2.2.2.2.2.2.2.2.2.2.2.2.2.2.2.2.2.2.2.2.1)), (h_x_ways_found, .inl (cI, 6347, .inl z3.2.2.2.2.2.2.2.2.2.2.2.2.2.2.2.2.2.2.2.2.2.2.2.2.2.2)), (h_x_measured, .inr (0, [.int x_measured_which, .int x_measured_x, .int x_measured_y, .int x_measured_row, .int x_measured_table])), (h_x_pairCounts, .inl (cI, 16, .inl x_pairCounts))] [] 93 [.int t10] := by
              have h := Option.some.inj h
              subst h
              exact G_ireturn hc ⟨rfl, rfl⟩ dX5_fault_93
            clear h
            have h := hr12
            clear hr12
            refine G_icmp_ne (tgt := 86) hc dX5_fault_73 (by decide) (fun c13 => ?_) (fun c13 => ?_)
            · have h := inn h c13
              refine G_aload_n hc dX5_fault_86 rfl ?_
              refine G_get hc f_X5_30 0 rfl rfl dX5_fault_87 ?_
              refine G_get hc f_X5_199 5 rfl rfl dX5_fault_90 ?_
              have h := Option.some.inj h
              subst h
              refine G_lv (lv' := []) lsame_nil ?_
              exact hj11
            · have h := ip h c13
              refine G_aload_n hc dX5_fault_76 rfl ?_
              refine G_get hc f_X5_30 0 rfl rfl dX5_fault_77 ?_
              refine G_get hc f_X5_193 5 rfl rfl dX5_fault_80 ?_
              refine G_goto (tgt := 93) hc dX5_fault_83 (by decide) ?_
              have h := Option.some.inj h
              subst h
              refine G_lv (lv' := []) lsame_nil ?_
              exact hj11
          · have h := ip h c14
            refine G_aload_n hc dX5_fault_63 rfl ?_
            refine G_get hc f_X5_30 0 rfl rfl dX5_fault_64 ?_
            refine G_get hc f_X5_196 5 rfl rfl dX5_fault_67 ?_
            have h := Option.some.inj h
            subst h
            exact G_ireturn hc ⟨rfl, rfl⟩ dX5_fault_70
        · have h := ip h c15
          refine G_ldc (v := -1000004) hc k_X5_91 dX5_fault_56 ?_
          have h := Option.some.inj h
          subst h
          exact G_ireturn hc ⟨rfl, rfl⟩ dX5_fault_58
  · have h := ip h c18
    refine G_ldc (v := -1000001) hc k_X5_56 dX5_fault_8 ?_
    have h := Option.some.inj h
    subst h
    exact G_ireturn hc ⟨rfl, rfl⟩ dX5_fault_10
set_option maxHeartbeats 4000000 in
set_option maxRecDepth 100000 in
theorem c_X5_unlikePlaces (l : Launch) (D : va_G) (cI cS : ClassId) (X : XP) (F : Nat) (a0 : Int32) (a1 : Int32) {res : Int32} (h : f_X5_unlikePlaces F a0 a1 = some res) : CtI l D cI cS X yX5_unlikePlaces cX5_unlikePlaces 4 (some .int) 2 [.int a0, .int a1] [] (PoI res []) := by
  refine CtI.of (by decide +kernel) rfl ?_
  intro p e s m below meth c A hc
  refine G_lv (lv' := [(0, .int a0), (1, .int a1)]) (lsame_cons rfl (lsame_cons rfl lsame_nil)) ?_
  unfold f_X5_unlikePlaces at h
  refine G_iconst (v := 0) hc dX5_unlikePlaces_0 (by decide) ?_
  refine G_istore_n (lv' := [(0, .int a0), (1, .int a1), (2, .int (0 : Int32))]) hc dX5_unlikePlaces_1 rfl rfl ?_
  refine G_iconst (v := 0) hc dX5_unlikePlaces_2 (by decide) ?_
  refine G_istore_n (lv' := [(0, .int a0), (1, .int a1), (2, .int (0 : Int32)), (3, .int (0 : Int32))]) hc dX5_unlikePlaces_3 rfl rfl ?_
  obtain ⟨e3, hl4, h⟩ := ob h
  have hK8 : G p l e (rmk 2) s m [.int a0, .int a1].toArray below meth c D A 4 0 0 (QI below [.int a0, .int a1].toArray s D A (PoI res [])) [] [(2, .int e3)] 34 [] := by
    refine G_iload_n hc dX5_unlikePlaces_34 rfl ?_
    have h := Option.some.inj h
    subst h
    exact G_ireturn hc ⟨rfl, rfl⟩ dX5_unlikePlaces_35
  clear h
  have hL5 : ∀ (n6 : Nat) (u1 : Int32) (u2 : Int32), f_X5_unlikePlaces_L4 F a0 a1 n6 u1 u2 = some e3 → G p l e (rmk 2) s m [.int a0, .int a1].toArray below meth c D A 4 0 0 (QI below [.int a0, .int a1].toArray s D A (PoI res [])) [] [(0, .int a0), (1, .int a1), (2, .int u1), (3, .int u2)] 4 [] := by
    intro n6
    induction n6 with
    | zero =>
      intro u1 u2 h
      exact nz h
    | succ n6 ih7 =>
      intro u1 u2 h
      rw [f_X5_unlikePlaces_L4] at h
      refine G_iload_n hc dX5_unlikePlaces_4 rfl ?_
      refine G_iload_n hc dX5_unlikePlaces_5 rfl ?_
      obtain ⟨z9, hu10, h⟩ := ob h
      refine G_callSI (ws2 := []) hc m_X5_61 (c_X5_lengthOf l D cI cS X F a0 hu10) [] (rmok_of (Nat.le_of_ble_eq_true rfl)) ⟨Nat.zero_le _, Nat.zero_le _⟩ rfl rfl rfl rfl rfl ⟨rfl, rfl, rfl⟩ dX5_unlikePlaces_6 ?_
      refine G_icmp_ge (tgt := 34) hc dX5_unlikePlaces_9 (by decide) (fun c21 => ?_) (fun c21 => ?_)
      · have h := ip h c21
        have h := Option.some.inj h
        subst h
        refine G_lv (lv' := [(2, .int u1)]) (lsame_cons rfl lsame_nil) ?_
        exact hK8
      · have h := inn h c21
        refine G_iload_n hc dX5_unlikePlaces_12 rfl ?_
        refine G_iload_n hc dX5_unlikePlaces_13 rfl ?_
        obtain ⟨z11, hu12, h⟩ := ob h
        refine G_callSI (ws2 := []) hc m_X5_88 (c_X5_letterOf l D cI cS X F a0 u2 hu12) [] (rmok_of (Nat.le_of_ble_eq_true rfl)) ⟨Nat.zero_le _, Nat.zero_le _⟩ rfl rfl rfl rfl rfl ⟨rfl, rfl, rfl⟩ dX5_unlikePlaces_14 ?_
        refine G_iload_n hc dX5_unlikePlaces_17 rfl ?_
        refine G_iload_n hc dX5_unlikePlaces_18 rfl ?_
        obtain ⟨z13, hu14, h⟩ := ob h
        refine G_callSI (ws2 := []) hc m_X5_88 (c_X5_letterOf l D cI cS X F a1 u2 hu14) [] (rmok_of (Nat.le_of_ble_eq_true rfl)) ⟨Nat.zero_le _, Nat.zero_le _⟩ rfl rfl rfl rfl rfl ⟨rfl, rfl, rfl⟩ dX5_unlikePlaces_19 ?_
        obtain ⟨t15, hr17, h⟩ := ob h
        have hj16 : G p l e (rmk 2) s m [.int a0, .int a1].toArray below meth c D A 4 0 0 (QI below [.int a0, .int a1].toArray s D A (PoI res [])) [] [(0, .int a0), (1, .int a1), (2, .int t15), (3, .int u2)] 28 [] := by
          obtain ⟨v20, e_v20, h⟩ := sb h
          refine G_iinc (v := v20) (lv' := [(0, .int a0), (1, .int a1), (2, .int t15), (3, .int v20)]) hc dX5_unlikePlaces_28 rfl (e_v20.trans rfl) rfl rfl ?_
          refine G_goto (tgt := 4) hc dX5_unlikePlaces_31 (by decide) ?_
          refine G_lv (lv' := [(0, .int a0), (1, .int a1), (2, .int t15), (3, .int v20)]) (lsame_cons rfl (lsame_cons rfl (lsame_cons rfl (lsame_cons rfl lsame_nil)))) ?_
          exact ih7 _ _ h
        clear h
        have h := hr17
        clear hr17
        refine G_icmp_eq (tgt := 28) hc dX5_unlikePlaces_22 (by decide) (fun c19 => ?_) (fun c19 => ?_)
        · have h := ip h c19
          have h := Option.some.inj h
          subst h
          refine G_lv (lv' := [(0, .int a0), (1, .int a1), (2, .int u1), (3, .int u2)]) (lsame_cons rfl (lsame_cons rfl (lsame_cons rfl (lsame_cons rfl lsame_nil)))) ?_
          exact hj16
        · have h := inn h c19
          obtain ⟨v18, e_v18, h⟩ := sb h
          refine G_iinc (v := v18) (lv' := [(0, .int a0), (1, .int a1), (2, .int v18), (3, .int u2)]) hc dX5_unlikePlaces_25 rfl (e_v18.trans rfl) rfl rfl ?_
          have h := Option.some.inj h
          subst h
          refine G_lv (lv' := [(0, .int a0), (1, .int a1), (2, .int v18), (3, .int u2)]) (lsame_cons rfl (lsame_cons rfl (lsame_cons rfl (lsame_cons rfl lsame_nil)))) ?_
          exact hj16
  refine G_lv (lv' := [(0, .int a0), (1, .int a1), (2, .int (0 : Int32)), (3, .int (0 : Int32))]) (lsame_cons rfl (lsame_cons rfl (lsame_cons rfl (lsame_cons rfl lsame_nil)))) ?_
  exact hL5 F _ _ hl4
set_option maxHeartbeats 4000000 in
set_option maxRecDepth 100000 in
theorem c_X5_withCode (l : Launch) (D : va_G) (cI cS : ClassId) (X : XP) (F : Nat) (a0 : Int32) (a1 : Int32) (a2 : Int32) (a3 : Int32) {res : Int32} (h : f_X5_withCode F a0 a1 a2 a3 = some res) : CtI l D cI cS X yX5_withCode cX5_withCode 5 (some .int) 1 [.int a0, .int a1, .int a2, .int a3] [] (PoI res []) := by
  refine CtI.of (by decide +kernel) rfl ?_
  intro p e s m below meth c A hc
  refine G_lv (lv' := [(0, .int a0), (1, .int a1), (2, .int a2), (3, .int a3)]) (lsame_cons rfl (lsame_cons rfl (lsame_cons rfl (lsame_cons rfl lsame_nil)))) ?_
  unfold f_X5_withCode at h
  refine G_iconst (v := 2) hc dX5_withCode_0 (by decide) ?_
  refine G_iconst (v := 4) hc dX5_withCode_1 (by decide) ?_
  refine G_iload_n hc dX5_withCode_2 rfl ?_
  refine G_imul hc dX5_withCode_3 ?_
  refine G_iload_n hc dX5_withCode_4 rfl ?_
  refine G_iadd hc dX5_withCode_5 ?_
  refine G_imul hc dX5_withCode_6 ?_
  obtain ⟨v1, e_v1, h⟩ := sb h
  refine G_top e_v1 ?_
  refine G_istore (lv' := [(0, .int a0), (1, .int a1), (2, .int a2), (3, .int a3), (4, .int v1)]) hc dX5_withCode_7 rfl rfl ?_
  refine G_iload_n hc dX5_withCode_9 rfl ?_
  refine G_iconst (v := 3) hc dX5_withCode_10 (by decide) ?_
  refine G_iload hc dX5_withCode_11 rfl ?_
  refine G_ishl hc dX5_withCode_13 ?_
  refine G_iconst (v := -1) hc dX5_withCode_14 (by decide) ?_
  refine G_ixor hc dX5_withCode_15 ?_
  refine G_iand hc dX5_withCode_16 ?_
  refine G_iload_n hc dX5_withCode_17 rfl ?_
  refine G_iload hc dX5_withCode_18 rfl ?_
  refine G_ishl hc dX5_withCode_20 ?_
  refine G_ior hc dX5_withCode_21 ?_
  have h := Option.some.inj h
  subst h
  exact G_ireturn hc ⟨rfl, rfl⟩ dX5_withCode_22
set_option maxHeartbeats 4000000 in
set_option maxRecDepth 100000 in
theorem c_X6_in (l : Launch) (D : va_G) (cI cS : ClassId) (X : XP) (F : Nat) (a0 : Int32) (a1 : Int32) (a2 : Int32) {res : Int32} (h : f_X6_in F a0 a1 a2 = some res) : CtI l D cI cS X yX6_in cX6_in 3 (some .boolean) 1 [.int a0, .int a1, .int a2] [] (PoI res []) := by
  refine CtI.of (by decide +kernel) rfl ?_
  intro p e s m below meth c A hc
  refine G_lv (lv' := [(0, .int a0), (1, .int a1), (2, .int a2)]) (lsame_cons rfl (lsame_cons rfl (lsame_cons rfl lsame_nil))) ?_
  unfold f_X6_in at h
  refine G_iload_n hc dX6_in_0 rfl ?_
  refine G_iload_n hc dX6_in_1 rfl ?_
  obtain ⟨t1, hr3, h⟩ := ob h
  have hj2 : G p l e (rmk 1) s m [.int a0, .int a1, .int a2].toArray below meth c D A 3 0 0 (QI below [.int a0, .int a1, .int a2].toArray s D A (PoI res [])) [] [] 15 [.int t1] := by
    obtain ⟨hz6, h⟩ := zb h
    have h := Option.some.inj h
    subst h
    exact G_zreturn hc hz6 ⟨rfl, rfl⟩ dX6_in_15
  clear h
  have h := hr3
  clear hr3
  refine G_icmp_lt (tgt := 14) hc dX6_in_2 (by decide) (fun c5 => ?_) (fun c5 => ?_)
  · have h := ip h c5
    refine G_iconst (v := 0) hc dX6_in_14 (by decide) ?_
    have h := Option.some.inj h
    subst h
    refine G_lv (lv' := []) lsame_nil ?_
    exact hj2
  · have h := inn h c5
    refine G_iload_n hc dX6_in_5 rfl ?_
    refine G_iload_n hc dX6_in_6 rfl ?_
    refine G_icmp_gt (tgt := 14) hc dX6_in_7 (by decide) (fun c4 => ?_) (fun c4 => ?_)
    · have h := ip h c4
      refine G_iconst (v := 0) hc dX6_in_14 (by decide) ?_
      have h := Option.some.inj h
      subst h
      refine G_lv (lv' := []) lsame_nil ?_
      exact hj2
    · have h := inn h c4
      refine G_iconst (v := 1) hc dX6_in_10 (by decide) ?_
      refine G_goto (tgt := 15) hc dX6_in_11 (by decide) ?_
      have h := Option.some.inj h
      subst h
      refine G_lv (lv' := []) lsame_nil ?_
      exact hj2
set_option maxHeartbeats 4000000 in
set_option maxRecDepth 100000 in
theorem c_X6_is4 (l : Launch) (D : va_G) (cI cS : ClassId) (X : XP) (F : Nat) (a0 : Int32) {res : Int32} (h : f_X6_is4 F a0 = some res) : CtI l D cI cS X yX6_is4 cX6_is4 1 (some .boolean) 2 [.int a0] [] (PoI res []) := by
  refine CtI.of (by decide +kernel) rfl ?_
  intro p e s m below meth c A hc
  refine G_lv (lv' := [(0, .int a0)]) (lsame_cons rfl lsame_nil) ?_
  unfold f_X6_is4 at h
  refine G_iload_n hc dX6_is4_0 rfl ?_
  refine G_iconst (v := 0) hc dX6_is4_1 (by decide) ?_
  refine G_iconst (v := 3) hc dX6_is4_2 (by decide) ?_
  obtain ⟨z1, hu2, h⟩ := ob h
  refine G_callSI (ws2 := []) hc m_X6_28 (c_X6_in l D cI cS X F a0 (0 : Int32) (3 : Int32) hu2) [] (rmok_of (Nat.le_of_ble_eq_true rfl)) ⟨Nat.zero_le _, Nat.zero_le _⟩ rfl rfl rfl rfl rfl ⟨rfl, rfl, rfl⟩ dX6_is4_3 ?_
  obtain ⟨hz3, h⟩ := zb h
  have h := Option.some.inj h
  subst h
  exact G_zreturn hc hz3 ⟨rfl, rfl⟩ dX6_is4_6
set_option maxHeartbeats 4000000 in
set_option maxRecDepth 100000 in
theorem c_X6_changes (l : Launch) (D : va_G) (cI cS : ClassId) (X : XP) (F : Nat) (h_m h_m_s h_m_past h_m_held h_m_text h_m_now h_m_kept : Nat) (m_pasts : Int32) (m_runs0 : Int32) (m_typed : Int32) (m_spot : Int32) (m_reason : Int32) (m_cause : Int32) (m_orders : Int32) (m_kindNow : Int32) (m_placeNow : Int32) (m_s : Nat → Int32) (m_past : Nat → Int32) (m_held : Nat → Int32) (m_text : Nat → Int32) (m_now : Nat → Int32) (m_kept : Nat → Int32) {res : Int32 × (Nat → Int32)} (h : f_X6_changes F m_pasts m_runs0 m_s m_past = some res) : CtV l D cI cS X yX6_changes cX6_changes 2 1 [.ref h_m] [(h_m, .inr (6, [.ref h_m_s, .ref h_m_past, .ref h_m_held, .int m_pasts, .int m_runs0, .ref h_m_text, .int m_typed, .ref h_m_now, .ref h_m_kept, .int m_spot, .int m_reason, .int m_cause, .int m_orders, .int m_kindNow, .int m_placeNow])), (h_m_s, .inl (cI, 116, .inl m_s)), (h_m_past, .inl (cI, 464, .inl m_past)), (h_m_held, .inl (cI, 116, .inl m_held)), (h_m_text, .inl (cI, 60, .inl m_text)), (h_m_now, .inl (cI, 10, .inl m_now)), (h_m_kept, .inl (cI, 16, .inl m_kept))] (PoV [(h_m, .inr (6, [.ref h_m_s, .ref h_m_past, .ref h_m_held, .int res.1, .int m_runs0, .ref h_m_text, .int m_typed, .ref h_m_now, .ref h_m_kept, .int m_spot, .int m_reason, .int m_cause, .int m_orders, .int m_kindNow, .int m_placeNow])), (h_m_s, .inl (cI, 116, .inl m_s)), (h_m_past, .inl (cI, 464, .inl res.2)), (h_m_held, .inl (cI, 116, .inl m_held)), (h_m_text, .inl (cI, 60, .inl m_text)), (h_m_now, .inl (cI, 10, .inl m_now)), (h_m_kept, .inl (cI, 16, .inl m_kept))]) := by
  refine CtV.of (by decide +kernel) rfl ?_
  intro p e s m below meth c A hc
  refine G_lv (lv' := [(0, .ref h_m)]) (lsame_cons rfl lsame_nil) ?_
  unfold f_X6_changes at h
  refine G_aload_n hc dX6_changes_0 rfl ?_
  refine G_get hc f_X6_32 0 rfl rfl dX6_changes_1 ?_
  refine G_if_eq (tgt := 8) hc dX6_changes_4 (by decide) (fun c31 => ?_) (fun c31 => ?_)
  · have h := ip h c31
    refine G_aload_n hc dX6_changes_8 rfl ?_
    refine G_get hc f_X6_36 0 rfl rfl dX6_changes_9 ?_
    refine G_iconst (v := 4) hc dX6_changes_12 (by decide) ?_
    obtain ⟨t1, hr3, h⟩ := ob h
    have hj2 : G p l e (rmk 1) s m [.ref h_m].toArray below meth c D A 2 0 0 (QV below [.ref h_m].toArray s D A (PoV [(h_m, .inr (6, [.ref h_m_s, .ref h_m_past, .ref h_m_held, .int res.1, .int m_runs0, .ref h_m_text, .int m_typed, .ref h_m_now, .ref h_m_kept, .int m_spot, .int m_reason, .int m_cause, .int m_orders, .int m_kindNow, .int m_placeNow])), (h_m_s, .inl (cI, 116, .inl m_s)), (h_m_past, .inl (cI, 464, .inl res.2)), (h_m_held, .inl (cI, 116, .inl m_held)), (h_m_text, .inl (cI, 60, .inl m_text)), (h_m_now, .inl (cI, 10, .inl m_now)), (h_m_kept, .inl (cI, 16, .inl m_kept))])) [(h_m, .inr (6, [.ref h_m_s, .ref h_m_past, .ref h_m_held, .int t1.1, .int m_runs0, .ref h_m_text, .int m_typed, .ref h_m_now, .ref h_m_kept, .int m_spot, .int m_reason, .int m_cause, .int m_orders, .int m_kindNow, .int m_placeNow])), (h_m_s, .inl (cI, 116, .inl m_s)), (h_m_past, .inl (cI, 464, .inl t1.2)), (h_m_held, .inl (cI, 116, .inl m_held)), (h_m_text, .inl (cI, 60, .inl m_text)), (h_m_now, .inl (cI, 10, .inl m_now)), (h_m_kept, .inl (cI, 16, .inl m_kept))] [(0, .ref h_m)] 56 [] := by
      refine G_iconst (v := 0) hc dX6_changes_56 (by decide) ?_
      refine G_istore_n (lv' := [(0, .ref h_m), (1, .int (0 : Int32))]) hc dX6_changes_57 rfl rfl ?_
      obtain ⟨e20, hl21, h⟩ := ob h
      have hK25 : G p l e (rmk 1) s m [.ref h_m].toArray below meth c D A 2 0 0 (QV below [.ref h_m].toArray s D A (PoV [(h_m, .inr (6, [.ref h_m_s, .ref h_m_past, .ref h_m_held, .int res.1, .int m_runs0, .ref h_m_text, .int m_typed, .ref h_m_now, .ref h_m_kept, .int m_spot, .int m_reason, .int m_cause, .int m_orders, .int m_kindNow, .int m_placeNow])), (h_m_s, .inl (cI, 116, .inl m_s)), (h_m_past, .inl (cI, 464, .inl res.2)), (h_m_held, .inl (cI, 116, .inl m_held)), (h_m_text, .inl (cI, 60, .inl m_text)), (h_m_now, .inl (cI, 10, .inl m_now)), (h_m_kept, .inl (cI, 16, .inl m_kept))])) [(h_m, .inr (6, [.ref h_m_s, .ref h_m_past, .ref h_m_held, .int t1.1, .int m_runs0, .ref h_m_text, .int m_typed, .ref h_m_now, .ref h_m_kept, .int m_spot, .int m_reason, .int m_cause, .int m_orders, .int m_kindNow, .int m_placeNow])), (h_m_s, .inl (cI, 116, .inl m_s)), (h_m_past, .inl (cI, 464, .inl e20)), (h_m_held, .inl (cI, 116, .inl m_held)), (h_m_text, .inl (cI, 60, .inl m_text)), (h_m_now, .inl (cI, 10, .inl m_now)), (h_m_kept, .inl (cI, 16, .inl m_kept))] [(0, .ref h_m)] 90 [] := by
        refine G_aload_n hc dX6_changes_90 rfl ?_
        refine G_dup hc dX6_changes_91 rfl ?_
        refine G_get hc f_X6_36 0 rfl rfl dX6_changes_92 ?_
        refine G_iconst (v := 1) hc dX6_changes_95 (by decide) ?_
        refine G_iadd hc dX6_changes_96 ?_
        obtain ⟨v30, e_v30, h⟩ := sb h
        refine G_top e_v30 ?_
        refine G_puti (ws' := [(h_m, .inr (6, [.ref h_m_s, .ref h_m_past, .ref h_m_held, .int v30, .int m_runs0, .ref h_m_text, .int m_typed, .ref h_m_now, .ref h_m_kept, .int m_spot, .int m_reason, .int m_cause, .int m_orders, .int m_kindNow, .int m_placeNow])), (h_m_s, .inl (cI, 116, .inl m_s)), (h_m_past, .inl (cI, 464, .inl e20)), (h_m_held, .inl (cI, 116, .inl m_held)), (h_m_text, .inl (cI, 60, .inl m_text)), (h_m_now, .inl (cI, 10, .inl m_now)), (h_m_kept, .inl (cI, 16, .inl m_kept))]) hc f_X6_36 p_X6_3 0 rfl rfl rfl dX6_changes_97 ?_
        have h := Option.some.inj h
        subst h
        exact G_return hc rfl dX6_changes_100
      clear h
      have hL22 : ∀ (n23 : Nat) (u18 : Int32) (u19 : Nat → Int32), f_X6_changes_L58 F m_s t1 n23 u18 u19 = some e20 → G p l e (rmk 1) s m [.ref h_m].toArray below meth c D A 2 0 0 (QV below [.ref h_m].toArray s D A (PoV [(h_m, .inr (6, [.ref h_m_s, .ref h_m_past, .ref h_m_held, .int res.1, .int m_runs0, .ref h_m_text, .int m_typed, .ref h_m_now, .ref h_m_kept, .int m_spot, .int m_reason, .int m_cause, .int m_orders, .int m_kindNow, .int m_placeNow])), (h_m_s, .inl (cI, 116, .inl m_s)), (h_m_past, .inl (cI, 464, .inl res.2)), (h_m_held, .inl (cI, 116, .inl m_held)), (h_m_text, .inl (cI, 60, .inl m_text)), (h_m_now, .inl (cI, 10, .inl m_now)), (h_m_kept, .inl (cI, 16, .inl m_kept))])) [(h_m, .inr (6, [.ref h_m_s, .ref h_m_past, .ref h_m_held, .int t1.1, .int m_runs0, .ref h_m_text, .int m_typed, .ref h_m_now, .ref h_m_kept, .int m_spot, .int m_reason, .int m_cause, .int m_orders, .int m_kindNow, .int m_placeNow])), (h_m_s, .inl (cI, 116, .inl m_s)), (h_m_past, .inl (cI, 464, .inl u19)), (h_m_held, .inl (cI, 116, .inl m_held)), (h_m_text, .inl (cI, 60, .inl m_text)), (h_m_now, .inl (cI, 10, .inl m_now)), (h_m_kept, .inl (cI, 16, .inl m_kept))] [(0, .ref h_m), (1, .int u18)] 58 [] := by
        intro n23
        induction n23 with
        | zero =>
          intro u18 u19 h
          exact nz h
        | succ n23 ih24 =>
          intro u18 u19 h
          rw [f_X6_changes_L58] at h
          refine G_iload_n hc dX6_changes_58 rfl ?_
          refine G_bipush (v := 116) hc dX6_changes_59 (by decide) ?_
          refine G_icmp_ge (tgt := 90) hc dX6_changes_61 (by decide) (fun c29 => ?_) (fun c29 => ?_)
          · have h := ip h c29
            have h := Option.some.inj h
            subst h
            refine G_lv (lv' := [(0, .ref h_m)]) (lsame_cons rfl lsame_nil) ?_
            exact hK25
          · have h := inn h c29
            refine G_aload_n hc dX6_changes_64 rfl ?_
            refine G_get hc f_X6_13 0 rfl rfl dX6_changes_65 ?_
            refine G_bipush (v := 116) hc dX6_changes_68 (by decide) ?_
            refine G_aload_n hc dX6_changes_70 rfl ?_
            refine G_get hc f_X6_36 0 rfl rfl dX6_changes_71 ?_
            refine G_imul hc dX6_changes_74 ?_
            refine G_iload_n hc dX6_changes_75 rfl ?_
            refine G_iadd hc dX6_changes_76 ?_
            refine G_aload_n hc dX6_changes_77 rfl ?_
            refine G_get hc f_X6_7 0 rfl rfl dX6_changes_78 ?_
            refine G_iload_n hc dX6_changes_81 rfl ?_
            obtain ⟨v26, i_v26, e_v26, h⟩ := rb h
            refine G_iald hc 1 rfl i_v26 e_v26 dX6_changes_82 ?_
            obtain ⟨v27, i_v27, e_v27, h⟩ := wb h
            refine G_iast (ws' := [(h_m, .inr (6, [.ref h_m_s, .ref h_m_past, .ref h_m_held, .int t1.1, .int m_runs0, .ref h_m_text, .int m_typed, .ref h_m_now, .ref h_m_kept, .int m_spot, .int m_reason, .int m_cause, .int m_orders, .int m_kindNow, .int m_placeNow])), (h_m_s, .inl (cI, 116, .inl m_s)), (h_m_past, .inl (cI, 464, .inl v27)), (h_m_held, .inl (cI, 116, .inl m_held)), (h_m_text, .inl (cI, 60, .inl m_text)), (h_m_now, .inl (cI, 10, .inl m_now)), (h_m_kept, .inl (cI, 16, .inl m_kept))]) hc 2 rfl i_v27 e_v27 rfl dX6_changes_83 ?_
            obtain ⟨v28, e_v28, h⟩ := sb h
            refine G_iinc (v := v28) (lv' := [(0, .ref h_m), (1, .int v28)]) hc dX6_changes_84 rfl (e_v28.trans rfl) rfl rfl ?_
            refine G_goto (tgt := 58) hc dX6_changes_87 (by decide) ?_
            refine G_lv (lv' := [(0, .ref h_m), (1, .int v28)]) (lsame_cons rfl (lsame_cons rfl lsame_nil)) ?_
            exact ih24 _ _ h
      refine G_lv (lv' := [(0, .ref h_m), (1, .int (0 : Int32))]) (lsame_cons rfl (lsame_cons rfl lsame_nil)) ?_
      exact hL22 F _ _ hl21
    clear h
    have h := hr3
    clear hr3
    refine G_icmp_ne (tgt := 56) hc dX6_changes_13 (by decide) (fun c17 => ?_) (fun c17 => ?_)
    · have h := inn h c17
      have h := Option.some.inj h
      subst h
      refine G_lv (lv' := [(0, .ref h_m)]) (lsame_cons rfl lsame_nil) ?_
      exact hj2
    · have h := ip h c17
      refine G_iconst (v := 0) hc dX6_changes_16 (by decide) ?_
      refine G_istore_n (lv' := [(0, .ref h_m), (1, .int (0 : Int32))]) hc dX6_changes_17 rfl rfl ?_
      obtain ⟨e6, hl7, h⟩ := ob h
      have hK11 : G p l e (rmk 1) s m [.ref h_m].toArray below meth c D A 2 0 0 (QV below [.ref h_m].toArray s D A (PoV [(h_m, .inr (6, [.ref h_m_s, .ref h_m_past, .ref h_m_held, .int res.1, .int m_runs0, .ref h_m_text, .int m_typed, .ref h_m_now, .ref h_m_kept, .int m_spot, .int m_reason, .int m_cause, .int m_orders, .int m_kindNow, .int m_placeNow])), (h_m_s, .inl (cI, 116, .inl m_s)), (h_m_past, .inl (cI, 464, .inl res.2)), (h_m_held, .inl (cI, 116, .inl m_held)), (h_m_text, .inl (cI, 60, .inl m_text)), (h_m_now, .inl (cI, 10, .inl m_now)), (h_m_kept, .inl (cI, 16, .inl m_kept))])) [(h_m, .inr (6, [.ref h_m_s, .ref h_m_past, .ref h_m_held, .int m_pasts, .int m_runs0, .ref h_m_text, .int m_typed, .ref h_m_now, .ref h_m_kept, .int m_spot, .int m_reason, .int m_cause, .int m_orders, .int m_kindNow, .int m_placeNow])), (h_m_s, .inl (cI, 116, .inl m_s)), (h_m_past, .inl (cI, 464, .inl e6)), (h_m_held, .inl (cI, 116, .inl m_held)), (h_m_text, .inl (cI, 60, .inl m_text)), (h_m_now, .inl (cI, 10, .inl m_now)), (h_m_kept, .inl (cI, 16, .inl m_kept))] [(0, .ref h_m)] 46 [] := by
        refine G_aload_n hc dX6_changes_46 rfl ?_
        refine G_dup hc dX6_changes_47 rfl ?_
        refine G_get hc f_X6_36 0 rfl rfl dX6_changes_48 ?_
        refine G_iconst (v := 1) hc dX6_changes_51 (by decide) ?_
        refine G_isub hc dX6_changes_52 ?_
        obtain ⟨v16, e_v16, h⟩ := sb h
        refine G_top e_v16 ?_
        refine G_puti (ws' := [(h_m, .inr (6, [.ref h_m_s, .ref h_m_past, .ref h_m_held, .int v16, .int m_runs0, .ref h_m_text, .int m_typed, .ref h_m_now, .ref h_m_kept, .int m_spot, .int m_reason, .int m_cause, .int m_orders, .int m_kindNow, .int m_placeNow])), (h_m_s, .inl (cI, 116, .inl m_s)), (h_m_past, .inl (cI, 464, .inl e6)), (h_m_held, .inl (cI, 116, .inl m_held)), (h_m_text, .inl (cI, 60, .inl m_text)), (h_m_now, .inl (cI, 10, .inl m_now)), (h_m_kept, .inl (cI, 16, .inl m_kept))]) hc f_X6_36 p_X6_3 0 rfl rfl rfl dX6_changes_53 ?_
        have h := Option.some.inj h
        subst h
        refine G_lv (lv' := [(0, .ref h_m)]) (lsame_cons rfl lsame_nil) ?_
        exact hj2
      clear h
      have hL8 : ∀ (n9 : Nat) (u4 : Int32) (u5 : Nat → Int32), f_X6_changes_L18 F  n9 u4 u5 = some e6 → G p l e (rmk 1) s m [.ref h_m].toArray below meth c D A 2 0 0 (QV below [.ref h_m].toArray s D A (PoV [(h_m, .inr (6, [.ref h_m_s, .ref h_m_past, .ref h_m_held, .int res.1, .int m_runs0, .ref h_m_text, .int m_typed, .ref h_m_now, .ref h_m_kept, .int m_spot, .int m_reason, .int m_cause, .int m_orders, .int m_kindNow, .int m_placeNow])), (h_m_s, .inl (cI, 116, .inl m_s)), (h_m_past, .inl (cI, 464, .inl res.2)), (h_m_held, .inl (cI, 116, .inl m_held)), (h_m_text, .inl (cI, 60, .inl m_text)), (h_m_now, .inl (cI, 10, .inl m_now)), (h_m_kept, .inl (cI, 16, .inl m_kept))])) [(h_m, .inr (6, [.ref h_m_s, .ref h_m_past, .ref h_m_held, .int m_pasts, .int m_runs0, .ref h_m_text, .int m_typed, .ref h_m_now, .ref h_m_kept, .int m_spot, .int m_reason, .int m_cause, .int m_orders, .int m_kindNow, .int m_placeNow])), (h_m_s, .inl (cI, 116, .inl m_s)), (h_m_past, .inl (cI, 464, .inl u5)), (h_m_held, .inl (cI, 116, .inl m_held)), (h_m_text, .inl (cI, 60, .inl m_text)), (h_m_now, .inl (cI, 10, .inl m_now)), (h_m_kept, .inl (cI, 16, .inl m_kept))] [(0, .ref h_m), (1, .int u4)] 18 [] := by
        intro n9
        induction n9 with
        | zero =>
          intro u4 u5 h
          exact nz h
        | succ n9 ih10 =>
          intro u4 u5 h
          rw [f_X6_changes_L18] at h
          refine G_iload_n hc dX6_changes_18 rfl ?_
          refine G_sipush (v := 348) hc dX6_changes_19 (by decide) ?_
          refine G_icmp_ge (tgt := 46) hc dX6_changes_22 (by decide) (fun c15 => ?_) (fun c15 => ?_)
          · have h := ip h c15
            have h := Option.some.inj h
            subst h
            refine G_lv (lv' := [(0, .ref h_m)]) (lsame_cons rfl lsame_nil) ?_
            exact hK11
          · have h := inn h c15
            refine G_aload_n hc dX6_changes_25 rfl ?_
            refine G_get hc f_X6_13 0 rfl rfl dX6_changes_26 ?_
            refine G_iload_n hc dX6_changes_29 rfl ?_
            refine G_aload_n hc dX6_changes_30 rfl ?_
            refine G_get hc f_X6_13 0 rfl rfl dX6_changes_31 ?_
            refine G_iload_n hc dX6_changes_34 rfl ?_
            refine G_bipush (v := 116) hc dX6_changes_35 (by decide) ?_
            refine G_iadd hc dX6_changes_37 ?_
            obtain ⟨v12, i_v12, e_v12, h⟩ := rb h
            refine G_iald hc 2 rfl i_v12 e_v12 dX6_changes_38 ?_
            obtain ⟨v13, i_v13, e_v13, h⟩ := wb h
            refine G_iast (ws' := [(h_m, .inr (6, [.ref h_m_s, .ref h_m_past, .ref h_m_held, .int m_pasts, .int m_runs0, .ref h_m_text, .int m_typed, .ref h_m_now, .ref h_m_kept, .int m_spot, .int m_reason, .int m_cause, .int m_orders, .int m_kindNow, .int m_placeNow])), (h_m_s, .inl (cI, 116, .inl m_s)), (h_m_past, .inl (cI, 464, .inl v13)), (h_m_held, .inl (cI, 116, .inl m_held)), (h_m_text, .inl (cI, 60, .inl m_text)), (h_m_now, .inl (cI, 10, .inl m_now)), (h_m_kept, .inl (cI, 16, .inl m_kept))]) hc 2 rfl i_v13 e_v13 rfl dX6_changes_39 ?_
            obtain ⟨v14, e_v14, h⟩ := sb h
            refine G_iinc (v := v14) (lv' := [(0, .ref h_m), (1, .int v14)]) hc dX6_changes_40 rfl (e_v14.trans rfl) rfl rfl ?_
            refine G_goto (tgt := 18) hc dX6_changes_43 (by decide) ?_
            refine G_lv (lv' := [(0, .ref h_m), (1, .int v14)]) (lsame_cons rfl (lsame_cons rfl lsame_nil)) ?_
            exact ih10 _ _ h
      refine G_lv (lv' := [(0, .ref h_m), (1, .int (0 : Int32))]) (lsame_cons rfl (lsame_cons rfl lsame_nil)) ?_
      exact hL8 F _ _ hl7
  · have h := inn h c31
    have h := Option.some.inj h
    subst h
    exact G_return hc rfl dX6_changes_7
set_option maxHeartbeats 4000000 in
set_option maxRecDepth 100000 in
theorem c_X6_append (l : Launch) (D : va_G) (cI cS : ClassId) (X : XP) (F : Nat) (h_m h_m_s h_m_past h_m_held h_m_text h_m_now h_m_kept : Nat) (m_pasts : Int32) (m_runs0 : Int32) (m_typed : Int32) (m_spot : Int32) (m_reason : Int32) (m_cause : Int32) (m_orders : Int32) (m_kindNow : Int32) (m_placeNow : Int32) (m_s : Nat → Int32) (m_past : Nat → Int32) (m_held : Nat → Int32) (m_text : Nat → Int32) (m_now : Nat → Int32) (m_kept : Nat → Int32) (a1 : Int32) {res : Int32 × Int32 × (Nat → Int32) × (Nat → Int32)} (h : f_X6_append F m_pasts m_runs0 m_s m_past a1 = some res) : CtI l D cI cS X yX6_append cX6_append 2 (some .int) 3 [.ref h_m, .int a1] [(h_m, .inr (6, [.ref h_m_s, .ref h_m_past, .ref h_m_held, .int m_pasts, .int m_runs0, .ref h_m_text, .int m_typed, .ref h_m_now, .ref h_m_kept, .int m_spot, .int m_reason, .int m_cause, .int m_orders, .int m_kindNow, .int m_placeNow])), (h_m_s, .inl (cI, 116, .inl m_s)), (h_m_past, .inl (cI, 464, .inl m_past)), (h_m_held, .inl (cI, 116, .inl m_held)), (h_m_text, .inl (cI, 60, .inl m_text)), (h_m_now, .inl (cI, 10, .inl m_now)), (h_m_kept, .inl (cI, 16, .inl m_kept))] (PoI res.1 [(h_m, .inr (6, [.ref h_m_s, .ref h_m_past, .ref h_m_held, .int res.2.1, .int m_runs0, .ref h_m_text, .int m_typed, .ref h_m_now, .ref h_m_kept, .int m_spot, .int m_reason, .int m_cause, .int m_orders, .int m_kindNow, .int m_placeNow])), (h_m_s, .inl (cI, 116, .inl res.2.2.1)), (h_m_past, .inl (cI, 464, .inl res.2.2.2)), (h_m_held, .inl (cI, 116, .inl m_held)), (h_m_text, .inl (cI, 60, .inl m_text)), (h_m_now, .inl (cI, 10, .inl m_now)), (h_m_kept, .inl (cI, 16, .inl m_kept))]) := by
  refine CtI.of (by decide +kernel) rfl ?_
  intro p e s m below meth c A hc
  refine G_lv (lv' := [(0, .ref h_m), (1, .int a1)]) (lsame_cons rfl (lsame_cons rfl lsame_nil)) ?_
  unfold f_X6_append at h
  refine G_iload_n hc dX6_append_0 rfl ?_
  obtain ⟨z1, hu2, h⟩ := ob h
  refine G_callSI (ws2 := [(h_m, .inr (6, [.ref h_m_s, .ref h_m_past, .ref h_m_held, .int m_pasts, .int m_runs0, .ref h_m_text, .int m_typed, .ref h_m_now, .ref h_m_kept, .int m_spot, .int m_reason, .int m_cause, .int m_orders, .int m_kindNow, .int m_placeNow])), (h_m_s, .inl (cI, 116, .inl m_s)), (h_m_past, .inl (cI, 464, .inl m_past)), (h_m_held, .inl (cI, 116, .inl m_held)), (h_m_text, .inl (cI, 60, .inl m_text)), (h_m_now, .inl (cI, 10, .inl m_now)), (h_m_kept, .inl (cI, 16, .inl m_kept))]) hc m_X6_40 (c_X6_is4 l D cI cS X F a1 hu2) [] (rmok_of (Nat.le_of_ble_eq_true rfl)) ⟨Nat.zero_le _, Nat.zero_le _⟩ rfl rfl rfl rfl rfl ⟨rfl, rfl, rfl⟩ dX6_append_1 ?_
  refine G_if_ne (tgt := 10) hc dX6_append_4 (by decide) (fun c12 => ?_) (fun c12 => ?_)
  · have h := inn h c12
    refine G_aload_n hc dX6_append_10 rfl ?_
    refine G_get hc f_X6_7 0 rfl rfl dX6_append_11 ?_
    refine G_iconst (v := 0) hc dX6_append_14 (by decide) ?_
    obtain ⟨v3, i_v3, e_v3, h⟩ := rb h
    refine G_iald hc 1 rfl i_v3 e_v3 dX6_append_15 ?_
    refine G_bipush (v := 10) hc dX6_append_16 (by decide) ?_
    refine G_icmp_ne (tgt := 24) hc dX6_append_18 (by decide) (fun c11 => ?_) (fun c11 => ?_)
    · have h := inn h c11
      refine G_aload_n hc dX6_append_24 rfl ?_
      obtain ⟨z4, hu5, h⟩ := ob h
      refine G_callVV (ws2 := [(h_m, .inr (6, [.ref h_m_s, .ref h_m_past, .ref h_m_held, .int z4.1, .int m_runs0, .ref h_m_text, .int m_typed, .ref h_m_now, .ref h_m_kept, .int m_spot, .int m_reason, .int m_cause, .int m_orders, .int m_kindNow, .int m_placeNow])), (h_m_s, .inl (cI, 116, .inl m_s)), (h_m_past, .inl (cI, 464, .inl z4.2)), (h_m_held, .inl (cI, 116, .inl m_held)), (h_m_text, .inl (cI, 60, .inl m_text)), (h_m_now, .inl (cI, 10, .inl m_now)), (h_m_kept, .inl (cI, 16, .inl m_kept))]) hc m_X6_46 (c_X6_changes l D cI cS X F h_m h_m_s h_m_past h_m_held h_m_text h_m_now h_m_kept m_pasts m_runs0 m_typed m_spot m_reason m_cause m_orders m_kindNow m_placeNow m_s m_past m_held m_text m_now m_kept hu5) 0 [0, 1, 2, 3, 4, 5, 6] rfl rfl (rmok_of (Nat.le_of_ble_eq_true rfl)) ⟨Nat.zero_le _, Nat.zero_le _⟩ rfl rfl rfl rfl rfl ⟨rfl, rfl, rfl⟩ dX6_append_25 ?_
      refine G_aload_n hc dX6_append_28 rfl ?_
      refine G_get hc f_X6_7 0 rfl rfl dX6_append_29 ?_
      refine G_iconst (v := 1) hc dX6_append_32 (by decide) ?_
      refine G_aload_n hc dX6_append_33 rfl ?_
      refine G_get hc f_X6_7 0 rfl rfl dX6_append_34 ?_
      refine G_iconst (v := 0) hc dX6_append_37 (by decide) ?_
      obtain ⟨v6, i_v6, e_v6, h⟩ := rb h
      refine G_iald hc 1 rfl i_v6 e_v6 dX6_append_38 ?_
      refine G_iadd hc dX6_append_39 ?_
      refine G_iload_n hc dX6_append_40 rfl ?_
      obtain ⟨v7, i_v7, e_v7, h⟩ := wb h
      refine G_iast (ws' := [(h_m, .inr (6, [.ref h_m_s, .ref h_m_past, .ref h_m_held, .int z4.1, .int m_runs0, .ref h_m_text, .int m_typed, .ref h_m_now, .ref h_m_kept, .int m_spot, .int m_reason, .int m_cause, .int m_orders, .int m_kindNow, .int m_placeNow])), (h_m_s, .inl (cI, 116, .inl v7)), (h_m_past, .inl (cI, 464, .inl z4.2)), (h_m_held, .inl (cI, 116, .inl m_held)), (h_m_text, .inl (cI, 60, .inl m_text)), (h_m_now, .inl (cI, 10, .inl m_now)), (h_m_kept, .inl (cI, 16, .inl m_kept))]) hc 1 rfl i_v7 e_v7 rfl dX6_append_41 ?_
      refine G_aload_n hc dX6_append_42 rfl ?_
      refine G_get hc f_X6_7 0 rfl rfl dX6_append_43 ?_
      refine G_iconst (v := 0) hc dX6_append_46 (by decide) ?_
      refine G_dup2 hc dX6_append_47 rfl rfl ?_
      obtain ⟨v8, i_v8, e_v8, h⟩ := rb h
      refine G_iald hc 1 rfl i_v8 e_v8 dX6_append_48 ?_
      refine G_iconst (v := 1) hc dX6_append_49 (by decide) ?_
      refine G_iadd hc dX6_append_50 ?_
      obtain ⟨v9, i_v9, e_v9, h⟩ := wb h
      refine G_iast (ws' := [(h_m, .inr (6, [.ref h_m_s, .ref h_m_past, .ref h_m_held, .int z4.1, .int m_runs0, .ref h_m_text, .int m_typed, .ref h_m_now, .ref h_m_kept, .int m_spot, .int m_reason, .int m_cause, .int m_orders, .int m_kindNow, .int m_placeNow])), (h_m_s, .inl (cI, 116, .inl v9)), (h_m_past, .inl (cI, 464, .inl z4.2)), (h_m_held, .inl (cI, 116, .inl m_held)), (h_m_text, .inl (cI, 60, .inl m_text)), (h_m_now, .inl (cI, 10, .inl m_now)), (h_m_kept, .inl (cI, 16, .inl m_kept))]) hc 1 rfl i_v9 e_v9 rfl dX6_append_51 ?_
      refine G_aload_n hc dX6_append_52 rfl ?_
      refine G_get hc f_X6_7 0 rfl rfl dX6_append_53 ?_
      refine G_iconst (v := 0) hc dX6_append_56 (by decide) ?_
      obtain ⟨v10, i_v10, e_v10, h⟩ := rb h
      refine G_iald hc 1 rfl i_v10 e_v10 dX6_append_57 ?_
      have h := Option.some.inj h
      subst h
      exact G_ireturn hc ⟨rfl, rfl⟩ dX6_append_58
    · have h := ip h c11
      refine G_ldc (v := -1000003) hc k_X6_45 dX6_append_21 ?_
      have h := Option.some.inj h
      subst h
      exact G_ireturn hc ⟨rfl, rfl⟩ dX6_append_23
  · have h := ip h c12
    refine G_ldc (v := -1000001) hc k_X6_44 dX6_append_7 ?_
    have h := Option.some.inj h
    subst h
    exact G_ireturn hc ⟨rfl, rfl⟩ dX6_append_9
set_option maxHeartbeats 4000000 in
set_option maxRecDepth 100000 in
theorem c_X6_clear (l : Launch) (D : va_G) (cI cS : ClassId) (X : XP) (F : Nat) (h_m h_m_s h_m_past h_m_held h_m_text h_m_now h_m_kept : Nat) (m_pasts : Int32) (m_runs0 : Int32) (m_typed : Int32) (m_spot : Int32) (m_reason : Int32) (m_cause : Int32) (m_orders : Int32) (m_kindNow : Int32) (m_placeNow : Int32) (m_s : Nat → Int32) (m_past : Nat → Int32) (m_held : Nat → Int32) (m_text : Nat → Int32) (m_now : Nat → Int32) (m_kept : Nat → Int32) {res : Int32 × Int32 × (Nat → Int32) × (Nat → Int32)} (h : f_X6_clear F m_pasts m_runs0 m_s m_past = some res) : CtI l D cI cS X yX6_clear cX6_clear 2 (some .int) 2 [.ref h_m] [(h_m, .inr (6, [.ref h_m_s, .ref h_m_past, .ref h_m_held, .int m_pasts, .int m_runs0, .ref h_m_text, .int m_typed, .ref h_m_now, .ref h_m_kept, .int m_spot, .int m_reason, .int m_cause, .int m_orders, .int m_kindNow, .int m_placeNow])), (h_m_s, .inl (cI, 116, .inl m_s)), (h_m_past, .inl (cI, 464, .inl m_past)), (h_m_held, .inl (cI, 116, .inl m_held)), (h_m_text, .inl (cI, 60, .inl m_text)), (h_m_now, .inl (cI, 10, .inl m_now)), (h_m_kept, .inl (cI, 16, .inl m_kept))] (PoI res.1 [(h_m, .inr (6, [.ref h_m_s, .ref h_m_past, .ref h_m_held, .int res.2.1, .int m_runs0, .ref h_m_text, .int m_typed, .ref h_m_now, .ref h_m_kept, .int m_spot, .int m_reason, .int m_cause, .int m_orders, .int m_kindNow, .int m_placeNow])), (h_m_s, .inl (cI, 116, .inl res.2.2.1)), (h_m_past, .inl (cI, 464, .inl res.2.2.2)), (h_m_held, .inl (cI, 116, .inl m_held)), (h_m_text, .inl (cI, 60, .inl m_text)), (h_m_now, .inl (cI, 10, .inl m_now)), (h_m_kept, .inl (cI, 16, .inl m_kept))]) := by
  refine CtI.of (by decide +kernel) rfl ?_
  intro p e s m below meth c A hc
  refine G_lv (lv' := [(0, .ref h_m)]) (lsame_cons rfl lsame_nil) ?_
  unfold f_X6_clear at h
  refine G_aload_n hc dX6_clear_0 rfl ?_
  obtain ⟨z1, hu2, h⟩ := ob h
  refine G_callVV (ws2 := [(h_m, .inr (6, [.ref h_m_s, .ref h_m_past, .ref h_m_held, .int z1.1, .int m_runs0, .ref h_m_text, .int m_typed, .ref h_m_now, .ref h_m_kept, .int m_spot, .int m_reason, .int m_cause, .int m_orders, .int m_kindNow, .int m_placeNow])), (h_m_s, .inl (cI, 116, .inl m_s)), (h_m_past, .inl (cI, 464, .inl z1.2)), (h_m_held, .inl (cI, 116, .inl m_held)), (h_m_text, .inl (cI, 60, .inl m_text)), (h_m_now, .inl (cI, 10, .inl m_now)), (h_m_kept, .inl (cI, 16, .inl m_kept))]) hc m_X6_46 (c_X6_changes l D cI cS X F h_m h_m_s h_m_past h_m_held h_m_text h_m_now h_m_kept m_pasts m_runs0 m_typed m_spot m_reason m_cause m_orders m_kindNow m_placeNow m_s m_past m_held m_text m_now m_kept hu2) 0 [0, 1, 2, 3, 4, 5, 6] rfl rfl (rmok_of (Nat.le_of_ble_eq_true rfl)) ⟨Nat.zero_le _, Nat.zero_le _⟩ rfl rfl rfl rfl rfl ⟨rfl, rfl, rfl⟩ dX6_clear_1 ?_
  refine G_aload_n hc dX6_clear_4 rfl ?_
  refine G_get hc f_X6_7 0 rfl rfl dX6_clear_5 ?_
  refine G_iconst (v := 0) hc dX6_clear_8 (by decide) ?_
  obtain ⟨v3, i_v3, e_v3, h⟩ := rb h
  refine G_iald hc 1 rfl i_v3 e_v3 dX6_clear_9 ?_
  refine G_istore_n (lv' := [(0, .ref h_m), (1, .int v3)]) hc dX6_clear_10 rfl rfl ?_
  refine G_aload_n hc dX6_clear_11 rfl ?_
  refine G_get hc f_X6_7 0 rfl rfl dX6_clear_12 ?_
  refine G_iconst (v := 0) hc dX6_clear_15 (by decide) ?_
  refine G_iconst (v := 0) hc dX6_clear_16 (by decide) ?_
  obtain ⟨v4, i_v4, e_v4, h⟩ := wb h
  refine G_iast (ws' := [(h_m, .inr (6, [.ref h_m_s, .ref h_m_past, .ref h_m_held, .int z1.1, .int m_runs0, .ref h_m_text, .int m_typed, .ref h_m_now, .ref h_m_kept, .int m_spot, .int m_reason, .int m_cause, .int m_orders, .int m_kindNow, .int m_placeNow])), (h_m_s, .inl (cI, 116, .inl v4)), (h_m_past, .inl (cI, 464, .inl z1.2)), (h_m_held, .inl (cI, 116, .inl m_held)), (h_m_text, .inl (cI, 60, .inl m_text)), (h_m_now, .inl (cI, 10, .inl m_now)), (h_m_kept, .inl (cI, 16, .inl m_kept))]) hc 1 rfl i_v4 e_v4 rfl dX6_clear_17 ?_
  refine G_iload_n hc dX6_clear_18 rfl ?_
  have h := Option.some.inj h
  subst h
  exact G_ireturn hc ⟨rfl, rfl⟩ dX6_clear_19
set_option maxHeartbeats 4000000 in
set_option maxRecDepth 100000 in
theorem c_X6_code (l : Launch) (D : va_G) (cI cS : ClassId) (X : XP) (F : Nat) (h_m h_m_s h_m_past h_m_held h_m_text h_m_now h_m_kept : Nat) (m_pasts : Int32) (m_runs0 : Int32) (m_typed : Int32) (m_spot : Int32) (m_reason : Int32) (m_cause : Int32) (m_orders : Int32) (m_kindNow : Int32) (m_placeNow : Int32) (m_s : Nat → Int32) (m_past : Nat → Int32) (m_held : Nat → Int32) (m_text : Nat → Int32) (m_now : Nat → Int32) (m_kept : Nat → Int32) (a1 : Int32) (a2 : Int32) (a3 : Int32) {res : Int32 × Int32 × (Nat → Int32) × (Nat → Int32)} (h : f_X6_code F m_pasts m_runs0 m_s m_past a1 a2 a3 = some res) : CtI l D cI cS X yX6_code cX6_code 5 (some .int) 3 [.ref h_m, .int a1, .int a2, .int a3] [(h_m, .inr (6, [.ref h_m_s, .ref h_m_past, .ref h_m_held, .int m_pasts, .int m_runs0, .ref h_m_text, .int m_typed, .ref h_m_now, .ref h_m_kept, .int m_spot, .int m_reason, .int m_cause, .int m_orders, .int m_kindNow, .int m_placeNow])), (h_m_s, .inl (cI, 116, .inl m_s)), (h_m_past, .inl (cI, 464, .inl m_past)), (h_m_held, .inl (cI, 116, .inl m_held)), (h_m_text, .inl (cI, 60, .inl m_text)), (h_m_now, .inl (cI, 10, .inl m_now)), (h_m_kept, .inl (cI, 16, .inl m_kept))] (PoI res.1 [(h_m, .inr (6, [.ref h_m_s, .ref h_m_past, .ref h_m_held, .int res.2.1, .int m_runs0, .ref h_m_text, .int m_typed, .ref h_m_now, .ref h_m_kept, .int m_spot, .int m_reason, .int m_cause, .int m_orders, .int m_kindNow, .int m_placeNow])), (h_m_s, .inl (cI, 116, .inl res.2.2.1)), (h_m_past, .inl (cI, 464, .inl res.2.2.2)), (h_m_held, .inl (cI, 116, .inl m_held)), (h_m_text, .inl (cI, 60, .inl m_text)), (h_m_now, .inl (cI, 10, .inl m_now)), (h_m_kept, .inl (cI, 16, .inl m_kept))]) := by
  refine CtI.of (by decide +kernel) rfl ?_
  intro p e s m below meth c A hc
  refine G_lv (lv' := [(0, .ref h_m), (1, .int a1), (2, .int a2), (3, .int a3)]) (lsame_cons rfl (lsame_cons rfl (lsame_cons rfl (lsame_cons rfl lsame_nil)))) ?_
  unfold f_X6_code at h
  refine G_iload_n hc dX6_code_0 rfl ?_
  obtain ⟨z1, hu2, h⟩ := ob h
  refine G_callSI (ws2 := [(h_m, .inr (6, [.ref h_m_s, .ref h_m_past, .ref h_m_held, .int m_pasts, .int m_runs0, .ref h_m_text, .int m_typed, .ref h_m_now, .ref h_m_kept, .int m_spot, .int m_reason, .int m_cause, .int m_orders, .int m_kindNow, .int m_placeNow])), (h_m_s, .inl (cI, 116, .inl m_s)), (h_m_past, .inl (cI, 464, .inl m_past)), (h_m_held, .inl (cI, 116, .inl m_held)), (h_m_text, .inl (cI, 60, .inl m_text)), (h_m_now, .inl (cI, 10, .inl m_now)), (h_m_kept, .inl (cI, 16, .inl m_kept))]) hc m_X6_40 (c_X6_is4 l D cI cS X F a1 hu2) [] (rmok_of (Nat.le_of_ble_eq_true rfl)) ⟨Nat.zero_le _, Nat.zero_le _⟩ rfl rfl rfl rfl rfl ⟨rfl, rfl, rfl⟩ dX6_code_1 ?_
  refine G_if_eq (tgt := 21) hc dX6_code_4 (by decide) (fun c13 => ?_) (fun c13 => ?_)
  · have h := ip h c13
    refine G_ldc (v := -1000001) hc k_X6_44 dX6_code_21 ?_
    have h := Option.some.inj h
    subst h
    exact G_ireturn hc ⟨rfl, rfl⟩ dX6_code_23
  · have h := inn h c13
    refine G_iload_n hc dX6_code_7 rfl ?_
    obtain ⟨z3, hu4, h⟩ := ob h
    refine G_callSI (ws2 := [(h_m, .inr (6, [.ref h_m_s, .ref h_m_past, .ref h_m_held, .int m_pasts, .int m_runs0, .ref h_m_text, .int m_typed, .ref h_m_now, .ref h_m_kept, .int m_spot, .int m_reason, .int m_cause, .int m_orders, .int m_kindNow, .int m_placeNow])), (h_m_s, .inl (cI, 116, .inl m_s)), (h_m_past, .inl (cI, 464, .inl m_past)), (h_m_held, .inl (cI, 116, .inl m_held)), (h_m_text, .inl (cI, 60, .inl m_text)), (h_m_now, .inl (cI, 10, .inl m_now)), (h_m_kept, .inl (cI, 16, .inl m_kept))]) hc m_X6_40 (c_X6_is4 l D cI cS X F a2 hu4) [] (rmok_of (Nat.le_of_ble_eq_true rfl)) ⟨Nat.zero_le _, Nat.zero_le _⟩ rfl rfl rfl rfl rfl ⟨rfl, rfl, rfl⟩ dX6_code_8 ?_
    refine G_if_eq (tgt := 21) hc dX6_code_11 (by decide) (fun c12 => ?_) (fun c12 => ?_)
    · have h := ip h c12
      refine G_ldc (v := -1000001) hc k_X6_44 dX6_code_21 ?_
      have h := Option.some.inj h
      subst h
      exact G_ireturn hc ⟨rfl, rfl⟩ dX6_code_23
    · have h := inn h c12
      refine G_iload_n hc dX6_code_14 rfl ?_
      obtain ⟨z5, hu6, h⟩ := ob h
      refine G_callSI (ws2 := [(h_m, .inr (6, [.ref h_m_s, .ref h_m_past, .ref h_m_held, .int m_pasts, .int m_runs0, .ref h_m_text, .int m_typed, .ref h_m_now, .ref h_m_kept, .int m_spot, .int m_reason, .int m_cause, .int m_orders, .int m_kindNow, .int m_placeNow])), (h_m_s, .inl (cI, 116, .inl m_s)), (h_m_past, .inl (cI, 464, .inl m_past)), (h_m_held, .inl (cI, 116, .inl m_held)), (h_m_text, .inl (cI, 60, .inl m_text)), (h_m_now, .inl (cI, 10, .inl m_now)), (h_m_kept, .inl (cI, 16, .inl m_kept))]) hc m_X6_40 (c_X6_is4 l D cI cS X F a3 hu6) [] (rmok_of (Nat.le_of_ble_eq_true rfl)) ⟨Nat.zero_le _, Nat.zero_le _⟩ rfl rfl rfl rfl rfl ⟨rfl, rfl, rfl⟩ dX6_code_15 ?_
      refine G_if_ne (tgt := 24) hc dX6_code_18 (by decide) (fun c11 => ?_) (fun c11 => ?_)
      · have h := inn h c11
        refine G_aload_n hc dX6_code_24 rfl ?_
        obtain ⟨z7, hu8, h⟩ := ob h
        refine G_callVV (ws2 := [(h_m, .inr (6, [.ref h_m_s, .ref h_m_past, .ref h_m_held, .int z7.1, .int m_runs0, .ref h_m_text, .int m_typed, .ref h_m_now, .ref h_m_kept, .int m_spot, .int m_reason, .int m_cause, .int m_orders, .int m_kindNow, .int m_placeNow])), (h_m_s, .inl (cI, 116, .inl m_s)), (h_m_past, .inl (cI, 464, .inl z7.2)), (h_m_held, .inl (cI, 116, .inl m_held)), (h_m_text, .inl (cI, 60, .inl m_text)), (h_m_now, .inl (cI, 10, .inl m_now)), (h_m_kept, .inl (cI, 16, .inl m_kept))]) hc m_X6_46 (c_X6_changes l D cI cS X F h_m h_m_s h_m_past h_m_held h_m_text h_m_now h_m_kept m_pasts m_runs0 m_typed m_spot m_reason m_cause m_orders m_kindNow m_placeNow m_s m_past m_held m_text m_now m_kept hu8) 0 [0, 1, 2, 3, 4, 5, 6] rfl rfl (rmok_of (Nat.le_of_ble_eq_true rfl)) ⟨Nat.zero_le _, Nat.zero_le _⟩ rfl rfl rfl rfl rfl ⟨rfl, rfl, rfl⟩ dX6_code_25 ?_
        refine G_aload_n hc dX6_code_28 rfl ?_
        refine G_get hc f_X6_7 0 rfl rfl dX6_code_29 ?_
        refine G_bipush (v := 11) hc dX6_code_32 (by decide) ?_
        refine G_iconst (v := 4) hc dX6_code_34 (by decide) ?_
        refine G_iload_n hc dX6_code_35 rfl ?_
        refine G_imul hc dX6_code_36 ?_
        refine G_iadd hc dX6_code_37 ?_
        refine G_iload_n hc dX6_code_38 rfl ?_
        refine G_iadd hc dX6_code_39 ?_
        obtain ⟨v9, i_v9, e_v9, h⟩ := rb h
        refine G_iald hc 1 rfl i_v9 e_v9 dX6_code_40 ?_
        refine G_istore (lv' := [(0, .ref h_m), (1, .int a1), (2, .int a2), (3, .int a3), (4, .int v9)]) hc dX6_code_41 rfl rfl ?_
        refine G_aload_n hc dX6_code_43 rfl ?_
        refine G_get hc f_X6_7 0 rfl rfl dX6_code_44 ?_
        refine G_bipush (v := 11) hc dX6_code_47 (by decide) ?_
        refine G_iconst (v := 4) hc dX6_code_49 (by decide) ?_
        refine G_iload_n hc dX6_code_50 rfl ?_
        refine G_imul hc dX6_code_51 ?_
        refine G_iadd hc dX6_code_52 ?_
        refine G_iload_n hc dX6_code_53 rfl ?_
        refine G_iadd hc dX6_code_54 ?_
        refine G_iload_n hc dX6_code_55 rfl ?_
        obtain ⟨v10, i_v10, e_v10, h⟩ := wb h
        refine G_iast (ws' := [(h_m, .inr (6, [.ref h_m_s, .ref h_m_past, .ref h_m_held, .int z7.1, .int m_runs0, .ref h_m_text, .int m_typed, .ref h_m_now, .ref h_m_kept, .int m_spot, .int m_reason, .int m_cause, .int m_orders, .int m_kindNow, .int m_placeNow])), (h_m_s, .inl (cI, 116, .inl v10)), (h_m_past, .inl (cI, 464, .inl z7.2)), (h_m_held, .inl (cI, 116, .inl m_held)), (h_m_text, .inl (cI, 60, .inl m_text)), (h_m_now, .inl (cI, 10, .inl m_now)), (h_m_kept, .inl (cI, 16, .inl m_kept))]) hc 1 rfl i_v10 e_v10 rfl dX6_code_56 ?_
        refine G_iload hc dX6_code_57 rfl ?_
        have h := Option.some.inj h
        subst h
        exact G_ireturn hc ⟨rfl, rfl⟩ dX6_code_59
      · have h := ip h c11
        refine G_ldc (v := -1000001) hc k_X6_44 dX6_code_21 ?_
        have h := Option.some.inj h
        subst h
        exact G_ireturn hc ⟨rfl, rfl⟩ dX6_code_23
set_option maxHeartbeats 4000000 in
set_option maxRecDepth 100000 in
theorem c_X6_turn (l : Launch) (D : va_G) (cI cS : ClassId) (X : XP) (F : Nat) (h_m h_m_s h_m_past h_m_held h_m_text h_m_now h_m_kept : Nat) (m_pasts : Int32) (m_runs0 : Int32) (m_typed : Int32) (m_spot : Int32) (m_reason : Int32) (m_cause : Int32) (m_orders : Int32) (m_kindNow : Int32) (m_placeNow : Int32) (m_s : Nat → Int32) (m_past : Nat → Int32) (m_held : Nat → Int32) (m_text : Nat → Int32) (m_now : Nat → Int32) (m_kept : Nat → Int32) {res : Int32 × Int32 × (Nat → Int32) × (Nat → Int32)} (h : f_X6_turn F m_pasts m_runs0 m_s m_past = some res) : CtI l D cI cS X yX6_turn cX6_turn 3 (some .int) 2 [.ref h_m] [(h_m, .inr (6, [.ref h_m_s, .ref h_m_past, .ref h_m_held, .int m_pasts, .int m_runs0, .ref h_m_text, .int m_typed, .ref h_m_now, .ref h_m_kept, .int m_spot, .int m_reason, .int m_cause, .int m_orders, .int m_kindNow, .int m_placeNow])), (h_m_s, .inl (cI, 116, .inl m_s)), (h_m_past, .inl (cI, 464, .inl m_past)), (h_m_held, .inl (cI, 116, .inl m_held)), (h_m_text, .inl (cI, 60, .inl m_text)), (h_m_now, .inl (cI, 10, .inl m_now)), (h_m_kept, .inl (cI, 16, .inl m_kept))] (PoI res.1 [(h_m, .inr (6, [.ref h_m_s, .ref h_m_past, .ref h_m_held, .int res.2.1, .int m_runs0, .ref h_m_text, .int m_typed, .ref h_m_now, .ref h_m_kept, .int m_spot, .int m_reason, .int m_cause, .int m_orders, .int m_kindNow, .int m_placeNow])), (h_m_s, .inl (cI, 116, .inl res.2.2.1)), (h_m_past, .inl (cI, 464, .inl res.2.2.2)), (h_m_held, .inl (cI, 116, .inl m_held)), (h_m_text, .inl (cI, 60, .inl m_text)), (h_m_now, .inl (cI, 10, .inl m_now)), (h_m_kept, .inl (cI, 16, .inl m_kept))]) := by
  refine CtI.of (by decide +kernel) rfl ?_
  intro p e s m below meth c A hc
  refine G_lv (lv' := [(0, .ref h_m)]) (lsame_cons rfl lsame_nil) ?_
  unfold f_X6_turn at h
  refine G_aload_n hc dX6_turn_0 rfl ?_
  refine G_get hc f_X6_7 0 rfl rfl dX6_turn_1 ?_
  refine G_iconst (v := 0) hc dX6_turn_4 (by decide) ?_
  obtain ⟨v1, i_v1, e_v1, h⟩ := rb h
  refine G_iald hc 1 rfl i_v1 e_v1 dX6_turn_5 ?_
  refine G_if_ne (tgt := 12) hc dX6_turn_6 (by decide) (fun c22 => ?_) (fun c22 => ?_)
  · have h := inn h c22
    refine G_aload_n hc dX6_turn_12 rfl ?_
    obtain ⟨z2, hu3, h⟩ := ob h
    refine G_callVV (ws2 := [(h_m, .inr (6, [.ref h_m_s, .ref h_m_past, .ref h_m_held, .int z2.1, .int m_runs0, .ref h_m_text, .int m_typed, .ref h_m_now, .ref h_m_kept, .int m_spot, .int m_reason, .int m_cause, .int m_orders, .int m_kindNow, .int m_placeNow])), (h_m_s, .inl (cI, 116, .inl m_s)), (h_m_past, .inl (cI, 464, .inl z2.2)), (h_m_held, .inl (cI, 116, .inl m_held)), (h_m_text, .inl (cI, 60, .inl m_text)), (h_m_now, .inl (cI, 10, .inl m_now)), (h_m_kept, .inl (cI, 16, .inl m_kept))]) hc m_X6_46 (c_X6_changes l D cI cS X F h_m h_m_s h_m_past h_m_held h_m_text h_m_now h_m_kept m_pasts m_runs0 m_typed m_spot m_reason m_cause m_orders m_kindNow m_placeNow m_s m_past m_held m_text m_now m_kept hu3) 0 [0, 1, 2, 3, 4, 5, 6] rfl rfl (rmok_of (Nat.le_of_ble_eq_true rfl)) ⟨Nat.zero_le _, Nat.zero_le _⟩ rfl rfl rfl rfl rfl ⟨rfl, rfl, rfl⟩ dX6_turn_13 ?_
    refine G_iconst (v := 0) hc dX6_turn_16 (by decide) ?_
    refine G_istore_n (lv' := [(0, .ref h_m), (1, .int (0 : Int32))]) hc dX6_turn_17 rfl rfl ?_
    obtain ⟨e6, hl7, h⟩ := ob h
    have hK11 : G p l e (rmk 2) s m [.ref h_m].toArray below meth c D A 3 0 0 (QI below [.ref h_m].toArray s D A (PoI res.1 [(h_m, .inr (6, [.ref h_m_s, .ref h_m_past, .ref h_m_held, .int res.2.1, .int m_runs0, .ref h_m_text, .int m_typed, .ref h_m_now, .ref h_m_kept, .int m_spot, .int m_reason, .int m_cause, .int m_orders, .int m_kindNow, .int m_placeNow])), (h_m_s, .inl (cI, 116, .inl res.2.2.1)), (h_m_past, .inl (cI, 464, .inl res.2.2.2)), (h_m_held, .inl (cI, 116, .inl m_held)), (h_m_text, .inl (cI, 60, .inl m_text)), (h_m_now, .inl (cI, 10, .inl m_now)), (h_m_kept, .inl (cI, 16, .inl m_kept))])) [(h_m, .inr (6, [.ref h_m_s, .ref h_m_past, .ref h_m_held, .int z2.1, .int m_runs0, .ref h_m_text, .int m_typed, .ref h_m_now, .ref h_m_kept, .int m_spot, .int m_reason, .int m_cause, .int m_orders, .int m_kindNow, .int m_placeNow])), (h_m_s, .inl (cI, 116, .inl e6)), (h_m_past, .inl (cI, 464, .inl z2.2)), (h_m_held, .inl (cI, 116, .inl m_held)), (h_m_text, .inl (cI, 60, .inl m_text)), (h_m_now, .inl (cI, 10, .inl m_now)), (h_m_kept, .inl (cI, 16, .inl m_kept))] [(0, .ref h_m)] 90 [] := by
      refine G_aload_n hc dX6_turn_90 rfl ?_
      refine G_get hc f_X6_7 0 rfl rfl dX6_turn_91 ?_
      refine G_iconst (v := 1) hc dX6_turn_94 (by decide) ?_
      obtain ⟨v21, i_v21, e_v21, h⟩ := rb h
      refine G_iald hc 1 rfl i_v21 e_v21 dX6_turn_95 ?_
      have h := Option.some.inj h
      subst h
      exact G_ireturn hc ⟨rfl, rfl⟩ dX6_turn_96
    clear h
    have hL8 : ∀ (n9 : Nat) (u4 : Int32) (u5 : Nat → Int32), f_X6_turn_L18 F  n9 u4 u5 = some e6 → G p l e (rmk 2) s m [.ref h_m].toArray below meth c D A 3 0 0 (QI below [.ref h_m].toArray s D A (PoI res.1 [(h_m, .inr (6, [.ref h_m_s, .ref h_m_past, .ref h_m_held, .int res.2.1, .int m_runs0, .ref h_m_text, .int m_typed, .ref h_m_now, .ref h_m_kept, .int m_spot, .int m_reason, .int m_cause, .int m_orders, .int m_kindNow, .int m_placeNow])), (h_m_s, .inl (cI, 116, .inl res.2.2.1)), (h_m_past, .inl (cI, 464, .inl res.2.2.2)), (h_m_held, .inl (cI, 116, .inl m_held)), (h_m_text, .inl (cI, 60, .inl m_text)), (h_m_now, .inl (cI, 10, .inl m_now)), (h_m_kept, .inl (cI, 16, .inl m_kept))])) [(h_m, .inr (6, [.ref h_m_s, .ref h_m_past, .ref h_m_held, .int z2.1, .int m_runs0, .ref h_m_text, .int m_typed, .ref h_m_now, .ref h_m_kept, .int m_spot, .int m_reason, .int m_cause, .int m_orders, .int m_kindNow, .int m_placeNow])), (h_m_s, .inl (cI, 116, .inl u5)), (h_m_past, .inl (cI, 464, .inl z2.2)), (h_m_held, .inl (cI, 116, .inl m_held)), (h_m_text, .inl (cI, 60, .inl m_text)), (h_m_now, .inl (cI, 10, .inl m_now)), (h_m_kept, .inl (cI, 16, .inl m_kept))] [(0, .ref h_m), (1, .int u4)] 18 [] := by
      intro n9
      induction n9 with
      | zero =>
        intro u4 u5 h
        exact nz h
      | succ n9 ih10 =>
        intro u4 u5 h
        rw [f_X6_turn_L18] at h
        refine G_iconst (v := 2) hc dX6_turn_18 (by decide) ?_
        refine G_iload_n hc dX6_turn_19 rfl ?_
        refine G_imul hc dX6_turn_20 ?_
        refine G_aload_n hc dX6_turn_21 rfl ?_
        refine G_get hc f_X6_7 0 rfl rfl dX6_turn_22 ?_
        refine G_iconst (v := 0) hc dX6_turn_25 (by decide) ?_
        obtain ⟨v12, i_v12, e_v12, h⟩ := rb h
        refine G_iald hc 1 rfl i_v12 e_v12 dX6_turn_26 ?_
        refine G_iconst (v := 1) hc dX6_turn_27 (by decide) ?_
        refine G_isub hc dX6_turn_28 ?_
        refine G_icmp_ge (tgt := 90) hc dX6_turn_29 (by decide) (fun c20 => ?_) (fun c20 => ?_)
        · have h := ip h c20
          have h := Option.some.inj h
          subst h
          refine G_lv (lv' := [(0, .ref h_m)]) (lsame_cons rfl lsame_nil) ?_
          exact hK11
        · have h := inn h c20
          refine G_aload_n hc dX6_turn_32 rfl ?_
          refine G_get hc f_X6_7 0 rfl rfl dX6_turn_33 ?_
          refine G_iconst (v := 1) hc dX6_turn_36 (by decide) ?_
          refine G_iload_n hc dX6_turn_37 rfl ?_
          refine G_iadd hc dX6_turn_38 ?_
          obtain ⟨v13, i_v13, e_v13, h⟩ := rb h
          refine G_iald hc 1 rfl i_v13 e_v13 dX6_turn_39 ?_
          refine G_istore_n (lv' := [(0, .ref h_m), (1, .int u4), (2, .int v13)]) hc dX6_turn_40 rfl rfl ?_
          refine G_aload_n hc dX6_turn_41 rfl ?_
          refine G_get hc f_X6_7 0 rfl rfl dX6_turn_42 ?_
          refine G_iconst (v := 1) hc dX6_turn_45 (by decide) ?_
          refine G_iload_n hc dX6_turn_46 rfl ?_
          refine G_iadd hc dX6_turn_47 ?_
          refine G_aload_n hc dX6_turn_48 rfl ?_
          refine G_get hc f_X6_7 0 rfl rfl dX6_turn_49 ?_
          refine G_iconst (v := 1) hc dX6_turn_52 (by decide) ?_
          refine G_aload_n hc dX6_turn_53 rfl ?_
          refine G_get hc f_X6_7 0 rfl rfl dX6_turn_54 ?_
          refine G_iconst (v := 0) hc dX6_turn_57 (by decide) ?_
          obtain ⟨v14, i_v14, e_v14, h⟩ := rb h
          refine G_iald hc 1 rfl i_v14 e_v14 dX6_turn_58 ?_
          refine G_iadd hc dX6_turn_59 ?_
          refine G_iconst (v := 1) hc dX6_turn_60 (by decide) ?_
          refine G_isub hc dX6_turn_61 ?_
          refine G_iload_n hc dX6_turn_62 rfl ?_
          refine G_isub hc dX6_turn_63 ?_
          obtain ⟨v15, i_v15, e_v15, h⟩ := rb h
          refine G_iald hc 1 rfl i_v15 e_v15 dX6_turn_64 ?_
          obtain ⟨v16, i_v16, e_v16, h⟩ := wb h
          refine G_iast (ws' := [(h_m, .inr (6, [.ref h_m_s, .ref h_m_past, .ref h_m_held, .int z2.1, .int m_runs0, .ref h_m_text, .int m_typed, .ref h_m_now, .ref h_m_kept, .int m_spot, .int m_reason, .int m_cause, .int m_orders, .int m_kindNow, .int m_placeNow])), (h_m_s, .inl (cI, 116, .inl v16)), (h_m_past, .inl (cI, 464, .inl z2.2)), (h_m_held, .inl (cI, 116, .inl m_held)), (h_m_text, .inl (cI, 60, .inl m_text)), (h_m_now, .inl (cI, 10, .inl m_now)), (h_m_kept, .inl (cI, 16, .inl m_kept))]) hc 1 rfl i_v16 e_v16 rfl dX6_turn_65 ?_
          refine G_aload_n hc dX6_turn_66 rfl ?_
          refine G_get hc f_X6_7 0 rfl rfl dX6_turn_67 ?_
          refine G_iconst (v := 1) hc dX6_turn_70 (by decide) ?_
          refine G_aload_n hc dX6_turn_71 rfl ?_
          refine G_get hc f_X6_7 0 rfl rfl dX6_turn_72 ?_
          refine G_iconst (v := 0) hc dX6_turn_75 (by decide) ?_
          obtain ⟨v17, i_v17, e_v17, h⟩ := rb h
          refine G_iald hc 1 rfl i_v17 e_v17 dX6_turn_76 ?_
          refine G_iadd hc dX6_turn_77 ?_
          refine G_iconst (v := 1) hc dX6_turn_78 (by decide) ?_
          refine G_isub hc dX6_turn_79 ?_
          refine G_iload_n hc dX6_turn_80 rfl ?_
          refine G_isub hc dX6_turn_81 ?_
          refine G_iload_n hc dX6_turn_82 rfl ?_
          obtain ⟨v18, i_v18, e_v18, h⟩ := wb h
          refine G_iast (ws' := [(h_m, .inr (6, [.ref h_m_s, .ref h_m_past, .ref h_m_held, .int z2.1, .int m_runs0, .ref h_m_text, .int m_typed, .ref h_m_now, .ref h_m_kept, .int m_spot, .int m_reason, .int m_cause, .int m_orders, .int m_kindNow, .int m_placeNow])), (h_m_s, .inl (cI, 116, .inl v18)), (h_m_past, .inl (cI, 464, .inl z2.2)), (h_m_held, .inl (cI, 116, .inl m_held)), (h_m_text, .inl (cI, 60, .inl m_text)), (h_m_now, .inl (cI, 10, .inl m_now)), (h_m_kept, .inl (cI, 16, .inl m_kept))]) hc 1 rfl i_v18 e_v18 rfl dX6_turn_83 ?_
          obtain ⟨v19, e_v19, h⟩ := sb h
          refine G_iinc (v := v19) (lv' := [(0, .ref h_m), (1, .int v19), (2, .int v13)]) hc dX6_turn_84 rfl (e_v19.trans rfl) rfl rfl ?_
          refine G_goto (tgt := 18) hc dX6_turn_87 (by decide) ?_
          refine G_lv (lv' := [(0, .ref h_m), (1, .int v19)]) (lsame_cons rfl (lsame_cons rfl lsame_nil)) ?_
          exact ih10 _ _ h
    refine G_lv (lv' := [(0, .ref h_m), (1, .int (0 : Int32))]) (lsame_cons rfl (lsame_cons rfl lsame_nil)) ?_
    exact hL8 F _ _ hl7
  · have h := ip h c22
    refine G_ldc (v := -1000002) hc k_X6_49 dX6_turn_9 ?_
    have h := Option.some.inj h
    subst h
    exact G_ireturn hc ⟨rfl, rfl⟩ dX6_turn_11
set_option maxHeartbeats 4000000 in
set_option maxRecDepth 100000 in
theorem c_X6_letterAt (l : Launch) (D : va_G) (cI cS : ClassId) (X : XP) (F : Nat) (h_m h_m_s h_m_past h_m_held h_m_text h_m_now h_m_kept : Nat) (m_pasts : Int32) (m_runs0 : Int32) (m_typed : Int32) (m_spot : Int32) (m_reason : Int32) (m_cause : Int32) (m_orders : Int32) (m_kindNow : Int32) (m_placeNow : Int32) (m_s : Nat → Int32) (m_past : Nat → Int32) (m_held : Nat → Int32) (m_text : Nat → Int32) (m_now : Nat → Int32) (m_kept : Nat → Int32) (a1 : Int32) {res : Int32} (h : f_X6_letterAt F m_s a1 = some res) : CtI l D cI cS X yX6_letterAt cX6_letterAt 2 (some .int) 1 [.ref h_m, .int a1] [(h_m, .inr (6, [.ref h_m_s, .ref h_m_past, .ref h_m_held, .int m_pasts, .int m_runs0, .ref h_m_text, .int m_typed, .ref h_m_now, .ref h_m_kept, .int m_spot, .int m_reason, .int m_cause, .int m_orders, .int m_kindNow, .int m_placeNow])), (h_m_s, .inl (cI, 116, .inl m_s)), (h_m_past, .inl (cI, 464, .inl m_past)), (h_m_held, .inl (cI, 116, .inl m_held)), (h_m_text, .inl (cI, 60, .inl m_text)), (h_m_now, .inl (cI, 10, .inl m_now)), (h_m_kept, .inl (cI, 16, .inl m_kept))] (PoI res [(h_m, .inr (6, [.ref h_m_s, .ref h_m_past, .ref h_m_held, .int m_pasts, .int m_runs0, .ref h_m_text, .int m_typed, .ref h_m_now, .ref h_m_kept, .int m_spot, .int m_reason, .int m_cause, .int m_orders, .int m_kindNow, .int m_placeNow])), (h_m_s, .inl (cI, 116, .inl m_s)), (h_m_past, .inl (cI, 464, .inl m_past)), (h_m_held, .inl (cI, 116, .inl m_held)), (h_m_text, .inl (cI, 60, .inl m_text)), (h_m_now, .inl (cI, 10, .inl m_now)), (h_m_kept, .inl (cI, 16, .inl m_kept))]) := by
  refine CtI.of (by decide +kernel) rfl ?_
  intro p e s m below meth c A hc
  refine G_lv (lv' := [(0, .ref h_m), (1, .int a1)]) (lsame_cons rfl (lsame_cons rfl lsame_nil)) ?_
  unfold f_X6_letterAt at h
  refine G_iload_n hc dX6_letterAt_0 rfl ?_
  obtain ⟨t1, hr3, h⟩ := ob h
  have hj2 : G p l e (rmk 1) s m [.ref h_m, .int a1].toArray below meth c D A 2 0 0 (QI below [.ref h_m, .int a1].toArray s D A (PoI res [(h_m, .inr (6, [.ref h_m_s, .ref h_m_past, .ref h_m_held, .int m_pasts, .int m_runs0, .ref h_m_text, .int m_typed, .ref h_m_now, .ref h_m_kept, .int m_spot, .int m_reason, .int m_cause, .int m_orders, .int m_kindNow, .int m_placeNow])), (h_m_s, .inl (cI, 116, .inl m_s)), (h_m_past, .inl (cI, 464, .inl m_past)), (h_m_held, .inl (cI, 116, .inl m_held)), (h_m_text, .inl (cI, 60, .inl m_text)), (h_m_now, .inl (cI, 10, .inl m_now)), (h_m_kept, .inl (cI, 16, .inl m_kept))])) [(h_m, .inr (6, [.ref h_m_s, .ref h_m_past, .ref h_m_held, .int m_pasts, .int m_runs0, .ref h_m_text, .int m_typed, .ref h_m_now, .ref h_m_kept, .int m_spot, .int m_reason, .int m_cause, .int m_orders, .int m_kindNow, .int m_placeNow])), (h_m_s, .inl (cI, 116, .inl m_s)), (h_m_past, .inl (cI, 464, .inl m_past)), (h_m_held, .inl (cI, 116, .inl m_held)), (h_m_text, .inl (cI, 60, .inl m_text)), (h_m_now, .inl (cI, 10, .inl m_now)), (h_m_kept, .inl (cI, 16, .inl m_kept))] [] 32 [.int t1] := by
    have h := Option.some.inj h
    subst h
    exact G_ireturn hc ⟨rfl, rfl⟩ dX6_letterAt_32
  clear h
  have h := hr3
  clear hr3
  refine G_if_ge (tgt := 9) hc dX6_letterAt_1 (by decide) (fun c7 => ?_) (fun c7 => ?_)
  · have h := ip h c7
    refine G_iload_n hc dX6_letterAt_9 rfl ?_
    refine G_aload_n hc dX6_letterAt_10 rfl ?_
    refine G_get hc f_X6_7 0 rfl rfl dX6_letterAt_11 ?_
    refine G_iconst (v := 0) hc dX6_letterAt_14 (by decide) ?_
    obtain ⟨v4, i_v4, e_v4, h⟩ := rb h
    refine G_iald hc 1 rfl i_v4 e_v4 dX6_letterAt_15 ?_
    refine G_icmp_ge (tgt := 30) hc dX6_letterAt_16 (by decide) (fun c6 => ?_) (fun c6 => ?_)
    · have h := ip h c6
      refine G_ldc (v := -1000004) hc k_X6_50 dX6_letterAt_30 ?_
      have h := Option.some.inj h
      subst h
      refine G_lv (lv' := []) lsame_nil ?_
      exact hj2
    · have h := inn h c6
      refine G_aload_n hc dX6_letterAt_19 rfl ?_
      refine G_get hc f_X6_7 0 rfl rfl dX6_letterAt_20 ?_
      refine G_iconst (v := 1) hc dX6_letterAt_23 (by decide) ?_
      refine G_iload_n hc dX6_letterAt_24 rfl ?_
      refine G_iadd hc dX6_letterAt_25 ?_
      obtain ⟨v5, i_v5, e_v5, h⟩ := rb h
      refine G_iald hc 1 rfl i_v5 e_v5 dX6_letterAt_26 ?_
      refine G_goto (tgt := 32) hc dX6_letterAt_27 (by decide) ?_
      have h := Option.some.inj h
      subst h
      refine G_lv (lv' := []) lsame_nil ?_
      exact hj2
  · have h := inn h c7
    refine G_ldc (v := -1000001) hc k_X6_44 dX6_letterAt_4 ?_
    refine G_goto (tgt := 32) hc dX6_letterAt_6 (by decide) ?_
    have h := Option.some.inj h
    subst h
    refine G_lv (lv' := []) lsame_nil ?_
    exact hj2
set_option maxHeartbeats 4000000 in
set_option maxRecDepth 100000 in
theorem c_X6_codeOf (l : Launch) (D : va_G) (cI cS : ClassId) (X : XP) (F : Nat) (h_m h_m_s h_m_past h_m_held h_m_text h_m_now h_m_kept : Nat) (m_pasts : Int32) (m_runs0 : Int32) (m_typed : Int32) (m_spot : Int32) (m_reason : Int32) (m_cause : Int32) (m_orders : Int32) (m_kindNow : Int32) (m_placeNow : Int32) (m_s : Nat → Int32) (m_past : Nat → Int32) (m_held : Nat → Int32) (m_text : Nat → Int32) (m_now : Nat → Int32) (m_kept : Nat → Int32) (a1 : Int32) (a2 : Int32) {res : Int32} (h : f_X6_codeOf F m_s a1 a2 = some res) : CtI l D cI cS X yX6_codeOf cX6_codeOf 3 (some .int) 3 [.ref h_m, .int a1, .int a2] [(h_m, .inr (6, [.ref h_m_s, .ref h_m_past, .ref h_m_held, .int m_pasts, .int m_runs0, .ref h_m_text, .int m_typed, .ref h_m_now, .ref h_m_kept, .int m_spot, .int m_reason, .int m_cause, .int m_orders, .int m_kindNow, .int m_placeNow])), (h_m_s, .inl (cI, 116, .inl m_s)), (h_m_past, .inl (cI, 464, .inl m_past)), (h_m_held, .inl (cI, 116, .inl m_held)), (h_m_text, .inl (cI, 60, .inl m_text)), (h_m_now, .inl (cI, 10, .inl m_now)), (h_m_kept, .inl (cI, 16, .inl m_kept))] (PoI res [(h_m, .inr (6, [.ref h_m_s, .ref h_m_past, .ref h_m_held, .int m_pasts, .int m_runs0, .ref h_m_text, .int m_typed, .ref h_m_now, .ref h_m_kept, .int m_spot, .int m_reason, .int m_cause, .int m_orders, .int m_kindNow, .int m_placeNow])), (h_m_s, .inl (cI, 116, .inl m_s)), (h_m_past, .inl (cI, 464, .inl m_past)), (h_m_held, .inl (cI, 116, .inl m_held)), (h_m_text, .inl (cI, 60, .inl m_text)), (h_m_now, .inl (cI, 10, .inl m_now)), (h_m_kept, .inl (cI, 16, .inl m_kept))]) := by
  refine CtI.of (by decide +kernel) rfl ?_
  intro p e s m below meth c A hc
  refine G_lv (lv' := [(0, .ref h_m), (1, .int a1), (2, .int a2)]) (lsame_cons rfl (lsame_cons rfl (lsame_cons rfl lsame_nil))) ?_
  unfold f_X6_codeOf at h
  refine G_iload_n hc dX6_codeOf_0 rfl ?_
  obtain ⟨z1, hu2, h⟩ := ob h
  refine G_callSI (ws2 := [(h_m, .inr (6, [.ref h_m_s, .ref h_m_past, .ref h_m_held, .int m_pasts, .int m_runs0, .ref h_m_text, .int m_typed, .ref h_m_now, .ref h_m_kept, .int m_spot, .int m_reason, .int m_cause, .int m_orders, .int m_kindNow, .int m_placeNow])), (h_m_s, .inl (cI, 116, .inl m_s)), (h_m_past, .inl (cI, 464, .inl m_past)), (h_m_held, .inl (cI, 116, .inl m_held)), (h_m_text, .inl (cI, 60, .inl m_text)), (h_m_now, .inl (cI, 10, .inl m_now)), (h_m_kept, .inl (cI, 16, .inl m_kept))]) hc m_X6_40 (c_X6_is4 l D cI cS X F a1 hu2) [] (rmok_of (Nat.le_of_ble_eq_true rfl)) ⟨Nat.zero_le _, Nat.zero_le _⟩ rfl rfl rfl rfl rfl ⟨rfl, rfl, rfl⟩ dX6_codeOf_1 ?_
  obtain ⟨t3, hr5, h⟩ := ob h
  have hj4 : G p l e (rmk 3) s m [.ref h_m, .int a1, .int a2].toArray below meth c D A 3 0 0 (QI below [.ref h_m, .int a1, .int a2].toArray s D A (PoI res [(h_m, .inr (6, [.ref h_m_s, .ref h_m_past, .ref h_m_held, .int m_pasts, .int m_runs0, .ref h_m_text, .int m_typed, .ref h_m_now, .ref h_m_kept, .int m_spot, .int m_reason, .int m_cause, .int m_orders, .int m_kindNow, .int m_placeNow])), (h_m_s, .inl (cI, 116, .inl m_s)), (h_m_past, .inl (cI, 464, .inl m_past)), (h_m_held, .inl (cI, 116, .inl m_held)), (h_m_text, .inl (cI, 60, .inl m_text)), (h_m_now, .inl (cI, 10, .inl m_now)), (h_m_kept, .inl (cI, 16, .inl m_kept))])) [(h_m, .inr (6, [.ref h_m_s, .ref h_m_past, .ref h_m_held, .int m_pasts, .int m_runs0, .ref h_m_text, .int m_typed, .ref h_m_now, .ref h_m_kept, .int m_spot, .int m_reason, .int m_cause, .int m_orders, .int m_kindNow, .int m_placeNow])), (h_m_s, .inl (cI, 116, .inl m_s)), (h_m_past, .inl (cI, 464, .inl m_past)), (h_m_held, .inl (cI, 116, .inl m_held)), (h_m_text, .inl (cI, 60, .inl m_text)), (h_m_now, .inl (cI, 10, .inl m_now)), (h_m_kept, .inl (cI, 16, .inl m_kept))] [] 32 [.int t3] := by
    have h := Option.some.inj h
    subst h
    exact G_ireturn hc ⟨rfl, rfl⟩ dX6_codeOf_32
  clear h
  have h := hr5
  clear hr5
  refine G_if_eq (tgt := 30) hc dX6_codeOf_4 (by decide) (fun c10 => ?_) (fun c10 => ?_)
  · have h := ip h c10
    refine G_ldc (v := -1000001) hc k_X6_44 dX6_codeOf_30 ?_
    have h := Option.some.inj h
    subst h
    refine G_lv (lv' := []) lsame_nil ?_
    exact hj4
  · have h := inn h c10
    refine G_iload_n hc dX6_codeOf_7 rfl ?_
    obtain ⟨z6, hu7, h⟩ := ob h
    refine G_callSI (ws2 := [(h_m, .inr (6, [.ref h_m_s, .ref h_m_past, .ref h_m_held, .int m_pasts, .int m_runs0, .ref h_m_text, .int m_typed, .ref h_m_now, .ref h_m_kept, .int m_spot, .int m_reason, .int m_cause, .int m_orders, .int m_kindNow, .int m_placeNow])), (h_m_s, .inl (cI, 116, .inl m_s)), (h_m_past, .inl (cI, 464, .inl m_past)), (h_m_held, .inl (cI, 116, .inl m_held)), (h_m_text, .inl (cI, 60, .inl m_text)), (h_m_now, .inl (cI, 10, .inl m_now)), (h_m_kept, .inl (cI, 16, .inl m_kept))]) hc m_X6_40 (c_X6_is4 l D cI cS X F a2 hu7) [] (rmok_of (Nat.le_of_ble_eq_true rfl)) ⟨Nat.zero_le _, Nat.zero_le _⟩ rfl rfl rfl rfl rfl ⟨rfl, rfl, rfl⟩ dX6_codeOf_8 ?_
    refine G_if_eq (tgt := 30) hc dX6_codeOf_11 (by decide) (fun c9 => ?_) (fun c9 => ?_)
    · have h := ip h c9
      refine G_ldc (v := -1000001) hc k_X6_44 dX6_codeOf_30 ?_
      have h := Option.some.inj h
      subst h
      refine G_lv (lv' := []) lsame_nil ?_
      exact hj4
    · have h := inn h c9
      refine G_aload_n hc dX6_codeOf_14 rfl ?_
      refine G_get hc f_X6_7 0 rfl rfl dX6_codeOf_15 ?_
      refine G_bipush (v := 11) hc dX6_codeOf_18 (by decide) ?_
      refine G_iconst (v := 4) hc dX6_codeOf_20 (by decide) ?_
      refine G_iload_n hc dX6_codeOf_21 rfl ?_
      refine G_imul hc dX6_codeOf_22 ?_
      refine G_iadd hc dX6_codeOf_23 ?_
      refine G_iload_n hc dX6_codeOf_24 rfl ?_
      refine G_iadd hc dX6_codeOf_25 ?_
      obtain ⟨v8, i_v8, e_v8, h⟩ := rb h
      refine G_iald hc 1 rfl i_v8 e_v8 dX6_codeOf_26 ?_
      refine G_goto (tgt := 32) hc dX6_codeOf_27 (by decide) ?_
      have h := Option.some.inj h
      subst h
      refine G_lv (lv' := []) lsame_nil ?_
      exact hj4
set_option maxHeartbeats 4000000 in
set_option maxRecDepth 100000 in
theorem c_X6_often (l : Launch) (D : va_G) (cI cS : ClassId) (X : XP) (F : Nat) (h_b0 : Nat) (n_b0 : Nat) (b0 : Nat → Int32) (a1 : Int32) (a2 : Int32) (a3 : Int32) {res : Int32} (h : f_X6_often F n_b0 b0 a1 a2 a3 = some res) : CtI l D cI cS X yX6_often cX6_often 6 (some .int) 1 [.ref h_b0, .int a1, .int a2, .int a3] [(h_b0, .inl (cI, n_b0, .inl b0))] (PoI res [(h_b0, .inl (cI, n_b0, .inl b0))]) := by
  refine CtI.of (by decide +kernel) rfl ?_
  intro p e s m below meth c A hc
  refine G_lv (lv' := [(0, .ref h_b0), (1, .int a1), (2, .int a2), (3, .int a3)]) (lsame_cons rfl (lsame_cons rfl (lsame_cons rfl (lsame_cons rfl lsame_nil)))) ?_
  unfold f_X6_often at h
  refine G_iconst (v := 0) hc dX6_often_0 (by decide) ?_
  refine G_istore (lv' := [(0, .ref h_b0), (1, .int a1), (2, .int a2), (3, .int a3), (4, .int (0 : Int32))]) hc dX6_often_1 rfl rfl ?_
  refine G_iconst (v := 1) hc dX6_often_3 (by decide) ?_
  refine G_istore (lv' := [(0, .ref h_b0), (1, .int a1), (2, .int a2), (3, .int a3), (4, .int (0 : Int32)), (5, .int (1 : Int32))]) hc dX6_often_4 rfl rfl ?_
  obtain ⟨e3, hl4, h⟩ := ob h
  have hK8 : G p l e (rmk 1) s m [.ref h_b0, .int a1, .int a2, .int a3].toArray below meth c D A 6 0 0 (QI below [.ref h_b0, .int a1, .int a2, .int a3].toArray s D A (PoI res [(h_b0, .inl (cI, n_b0, .inl b0))])) [(h_b0, .inl (cI, n_b0, .inl b0))] [(4, .int e3)] 49 [] := by
    refine G_iload hc dX6_often_49 rfl ?_
    have h := Option.some.inj h
    subst h
    exact G_ireturn hc ⟨rfl, rfl⟩ dX6_often_51
  clear h
  have hL5 : ∀ (n6 : Nat) (u1 : Int32) (u2 : Int32), f_X6_often_L6 F n_b0 b0 a1 a2 a3 n6 u1 u2 = some e3 → G p l e (rmk 1) s m [.ref h_b0, .int a1, .int a2, .int a3].toArray below meth c D A 6 0 0 (QI below [.ref h_b0, .int a1, .int a2, .int a3].toArray s D A (PoI res [(h_b0, .inl (cI, n_b0, .inl b0))])) [(h_b0, .inl (cI, n_b0, .inl b0))] [(0, .ref h_b0), (1, .int a1), (2, .int a2), (3, .int a3), (4, .int u1), (5, .int u2)] 6 [] := by
    intro n6
    induction n6 with
    | zero =>
      intro u1 u2 h
      exact nz h
    | succ n6 ih7 =>
      intro u1 u2 h
      rw [f_X6_often_L6] at h
      refine G_iload hc dX6_often_6 rfl ?_
      refine G_iload_n hc dX6_often_8 rfl ?_
      refine G_icmp_ge (tgt := 49) hc dX6_often_9 (by decide) (fun c17 => ?_) (fun c17 => ?_)
      · have h := ip h c17
        have h := Option.some.inj h
        subst h
        refine G_lv (lv' := [(4, .int u1)]) (lsame_cons rfl lsame_nil) ?_
        exact hK8
      · have h := inn h c17
        refine G_iload hc dX6_often_12 rfl ?_
        refine G_iconst (v := 4) hc dX6_often_14 (by decide) ?_
        refine G_aload_n hc dX6_often_15 rfl ?_
        refine G_iload_n hc dX6_often_16 rfl ?_
        refine G_iload hc dX6_often_17 rfl ?_
        refine G_iadd hc dX6_often_19 ?_
        refine G_iconst (v := 1) hc dX6_often_20 (by decide) ?_
        refine G_isub hc dX6_often_21 ?_
        obtain ⟨v9, i_v9, e_v9, h⟩ := rb h
        refine G_iald hc 0 rfl i_v9 e_v9 dX6_often_22 ?_
        refine G_imul hc dX6_often_23 ?_
        refine G_aload_n hc dX6_often_24 rfl ?_
        refine G_iload_n hc dX6_often_25 rfl ?_
        refine G_iload hc dX6_often_26 rfl ?_
        refine G_iadd hc dX6_often_28 ?_
        obtain ⟨v10, i_v10, e_v10, h⟩ := rb h
        refine G_iald hc 0 rfl i_v10 e_v10 dX6_often_29 ?_
        refine G_iadd hc dX6_often_30 ?_
        refine G_iload_n hc dX6_often_31 rfl ?_
        obtain ⟨t11, hr13, h⟩ := ob h
        have hj12 : G p l e (rmk 1) s m [.ref h_b0, .int a1, .int a2, .int a3].toArray below meth c D A 6 0 0 (QI below [.ref h_b0, .int a1, .int a2, .int a3].toArray s D A (PoI res [(h_b0, .inl (cI, n_b0, .inl b0))])) [(h_b0, .inl (cI, n_b0, .inl b0))] [(0, .ref h_b0), (1, .int a1), (2, .int a2), (3, .int a3), (5, .int u2)] 40 [.int t11, .int u1] := by
          refine G_iadd hc dX6_often_40 ?_
          obtain ⟨v15, e_v15, h⟩ := sb h
          refine G_top e_v15 ?_
          refine G_istore (lv' := [(0, .ref h_b0), (1, .int a1), (2, .int a2), (3, .int a3), (5, .int u2), (4, .int v15)]) hc dX6_often_41 rfl rfl ?_
          obtain ⟨v16, e_v16, h⟩ := sb h
          refine G_iinc (v := v16) (lv' := [(0, .ref h_b0), (1, .int a1), (2, .int a2), (3, .int a3), (5, .int v16), (4, .int v15)]) hc dX6_often_43 rfl (e_v16.trans rfl) rfl rfl ?_
          refine G_goto (tgt := 6) hc dX6_often_46 (by decide) ?_
          refine G_lv (lv' := [(0, .ref h_b0), (1, .int a1), (2, .int a2), (3, .int a3), (4, .int v15), (5, .int v16)]) (lsame_cons rfl (lsame_cons rfl (lsame_cons rfl (lsame_cons rfl (lsame_cons rfl (lsame_cons rfl lsame_nil)))))) ?_
          exact ih7 _ _ h
        clear h
        have h := hr13
        clear hr13
        refine G_icmp_ne (tgt := 39) hc dX6_often_32 (by decide) (fun c14 => ?_) (fun c14 => ?_)
        · have h := inn h c14
          refine G_iconst (v := 0) hc dX6_often_39 (by decide) ?_
          have h := Option.some.inj h
          subst h
          refine G_lv (lv' := [(0, .ref h_b0), (1, .int a1), (2, .int a2), (3, .int a3), (5, .int u2)]) (lsame_cons rfl (lsame_cons rfl (lsame_cons rfl (lsame_cons rfl (lsame_cons rfl lsame_nil))))) ?_
          exact hj12
        · have h := ip h c14
          refine G_iconst (v := 1) hc dX6_often_35 (by decide) ?_
          refine G_goto (tgt := 40) hc dX6_often_36 (by decide) ?_
          have h := Option.some.inj h
          subst h
          refine G_lv (lv' := [(0, .ref h_b0), (1, .int a1), (2, .int a2), (3, .int a3), (5, .int u2)]) (lsame_cons rfl (lsame_cons rfl (lsame_cons rfl (lsame_cons rfl (lsame_cons rfl lsame_nil))))) ?_
          exact hj12
  refine G_lv (lv' := [(0, .ref h_b0), (1, .int a1), (2, .int a2), (3, .int a3), (4, .int (0 : Int32)), (5, .int (1 : Int32))]) (lsame_cons rfl (lsame_cons rfl (lsame_cons rfl (lsame_cons rfl (lsame_cons rfl (lsame_cons rfl lsame_nil)))))) ?_
  exact hL5 F _ _ hl4
set_option maxHeartbeats 4000000 in
set_option maxRecDepth 100000 in
theorem c_X6_letters (l : Launch) (D : va_G) (cI cS : ClassId) (X : XP) (F : Nat) (h_m h_m_s h_m_past h_m_held h_m_text h_m_now h_m_kept : Nat) (m_pasts : Int32) (m_runs0 : Int32) (m_typed : Int32) (m_spot : Int32) (m_reason : Int32) (m_cause : Int32) (m_orders : Int32) (m_kindNow : Int32) (m_placeNow : Int32) (m_s : Nat → Int32) (m_past : Nat → Int32) (m_held : Nat → Int32) (m_text : Nat → Int32) (m_now : Nat → Int32) (m_kept : Nat → Int32) (a1 : Int32) {res : Int32} (h : f_X6_letters F m_s a1 = some res) : CtI l D cI cS X yX6_letters cX6_letters 4 (some .int) 1 [.ref h_m, .int a1] [(h_m, .inr (6, [.ref h_m_s, .ref h_m_past, .ref h_m_held, .int m_pasts, .int m_runs0, .ref h_m_text, .int m_typed, .ref h_m_now, .ref h_m_kept, .int m_spot, .int m_reason, .int m_cause, .int m_orders, .int m_kindNow, .int m_placeNow])), (h_m_s, .inl (cI, 116, .inl m_s)), (h_m_past, .inl (cI, 464, .inl m_past)), (h_m_held, .inl (cI, 116, .inl m_held)), (h_m_text, .inl (cI, 60, .inl m_text)), (h_m_now, .inl (cI, 10, .inl m_now)), (h_m_kept, .inl (cI, 16, .inl m_kept))] (PoI res [(h_m, .inr (6, [.ref h_m_s, .ref h_m_past, .ref h_m_held, .int m_pasts, .int m_runs0, .ref h_m_text, .int m_typed, .ref h_m_now, .ref h_m_kept, .int m_spot, .int m_reason, .int m_cause, .int m_orders, .int m_kindNow, .int m_placeNow])), (h_m_s, .inl (cI, 116, .inl m_s)), (h_m_past, .inl (cI, 464, .inl m_past)), (h_m_held, .inl (cI, 116, .inl m_held)), (h_m_text, .inl (cI, 60, .inl m_text)), (h_m_now, .inl (cI, 10, .inl m_now)), (h_m_kept, .inl (cI, 16, .inl m_kept))]) := by
  refine CtI.of (by decide +kernel) rfl ?_
  intro p e s m below meth c A hc
  refine G_lv (lv' := [(0, .ref h_m), (1, .int a1)]) (lsame_cons rfl (lsame_cons rfl lsame_nil)) ?_
  unfold f_X6_letters at h
  refine G_iconst (v := 0) hc dX6_letters_0 (by decide) ?_
  refine G_istore_n (lv' := [(0, .ref h_m), (1, .int a1), (2, .int (0 : Int32))]) hc dX6_letters_1 rfl rfl ?_
  refine G_iconst (v := 0) hc dX6_letters_2 (by decide) ?_
  refine G_istore_n (lv' := [(0, .ref h_m), (1, .int a1), (2, .int (0 : Int32)), (3, .int (0 : Int32))]) hc dX6_letters_3 rfl rfl ?_
  obtain ⟨e3, hl4, h⟩ := ob h
  have hK8 : G p l e (rmk 1) s m [.ref h_m, .int a1].toArray below meth c D A 4 0 0 (QI below [.ref h_m, .int a1].toArray s D A (PoI res [(h_m, .inr (6, [.ref h_m_s, .ref h_m_past, .ref h_m_held, .int m_pasts, .int m_runs0, .ref h_m_text, .int m_typed, .ref h_m_now, .ref h_m_kept, .int m_spot, .int m_reason, .int m_cause, .int m_orders, .int m_kindNow, .int m_placeNow])), (h_m_s, .inl (cI, 116, .inl m_s)), (h_m_past, .inl (cI, 464, .inl m_past)), (h_m_held, .inl (cI, 116, .inl m_held)), (h_m_text, .inl (cI, 60, .inl m_text)), (h_m_now, .inl (cI, 10, .inl m_now)), (h_m_kept, .inl (cI, 16, .inl m_kept))])) [(h_m, .inr (6, [.ref h_m_s, .ref h_m_past, .ref h_m_held, .int m_pasts, .int m_runs0, .ref h_m_text, .int m_typed, .ref h_m_now, .ref h_m_kept, .int m_spot, .int m_reason, .int m_cause, .int m_orders, .int m_kindNow, .int m_placeNow])), (h_m_s, .inl (cI, 116, .inl m_s)), (h_m_past, .inl (cI, 464, .inl m_past)), (h_m_held, .inl (cI, 116, .inl m_held)), (h_m_text, .inl (cI, 60, .inl m_text)), (h_m_now, .inl (cI, 10, .inl m_now)), (h_m_kept, .inl (cI, 16, .inl m_kept))] [(2, .int e3)] 40 [] := by
    refine G_iload_n hc dX6_letters_40 rfl ?_
    have h := Option.some.inj h
    subst h
    exact G_ireturn hc ⟨rfl, rfl⟩ dX6_letters_41
  clear h
  have hL5 : ∀ (n6 : Nat) (u1 : Int32) (u2 : Int32), f_X6_letters_L4 F m_s a1 n6 u1 u2 = some e3 → G p l e (rmk 1) s m [.ref h_m, .int a1].toArray below meth c D A 4 0 0 (QI below [.ref h_m, .int a1].toArray s D A (PoI res [(h_m, .inr (6, [.ref h_m_s, .ref h_m_past, .ref h_m_held, .int m_pasts, .int m_runs0, .ref h_m_text, .int m_typed, .ref h_m_now, .ref h_m_kept, .int m_spot, .int m_reason, .int m_cause, .int m_orders, .int m_kindNow, .int m_placeNow])), (h_m_s, .inl (cI, 116, .inl m_s)), (h_m_past, .inl (cI, 464, .inl m_past)), (h_m_held, .inl (cI, 116, .inl m_held)), (h_m_text, .inl (cI, 60, .inl m_text)), (h_m_now, .inl (cI, 10, .inl m_now)), (h_m_kept, .inl (cI, 16, .inl m_kept))])) [(h_m, .inr (6, [.ref h_m_s, .ref h_m_past, .ref h_m_held, .int m_pasts, .int m_runs0, .ref h_m_text, .int m_typed, .ref h_m_now, .ref h_m_kept, .int m_spot, .int m_reason, .int m_cause, .int m_orders, .int m_kindNow, .int m_placeNow])), (h_m_s, .inl (cI, 116, .inl m_s)), (h_m_past, .inl (cI, 464, .inl m_past)), (h_m_held, .inl (cI, 116, .inl m_held)), (h_m_text, .inl (cI, 60, .inl m_text)), (h_m_now, .inl (cI, 10, .inl m_now)), (h_m_kept, .inl (cI, 16, .inl m_kept))] [(0, .ref h_m), (1, .int a1), (2, .int u1), (3, .int u2)] 4 [] := by
    intro n6
    induction n6 with
    | zero =>
      intro u1 u2 h
      exact nz h
    | succ n6 ih7 =>
      intro u1 u2 h
      rw [f_X6_letters_L4] at h
      refine G_iload_n hc dX6_letters_4 rfl ?_
      refine G_aload_n hc dX6_letters_5 rfl ?_
      refine G_get hc f_X6_7 0 rfl rfl dX6_letters_6 ?_
      refine G_iconst (v := 0) hc dX6_letters_9 (by decide) ?_
      obtain ⟨v9, i_v9, e_v9, h⟩ := rb h
      refine G_iald hc 1 rfl i_v9 e_v9 dX6_letters_10 ?_
      refine G_icmp_ge (tgt := 40) hc dX6_letters_11 (by decide) (fun c17 => ?_) (fun c17 => ?_)
      · have h := ip h c17
        have h := Option.some.inj h
        subst h
        refine G_lv (lv' := [(2, .int u1)]) (lsame_cons rfl lsame_nil) ?_
        exact hK8
      · have h := inn h c17
        refine G_iload_n hc dX6_letters_14 rfl ?_
        refine G_aload_n hc dX6_letters_15 rfl ?_
        refine G_get hc f_X6_7 0 rfl rfl dX6_letters_16 ?_
        refine G_iconst (v := 1) hc dX6_letters_19 (by decide) ?_
        refine G_iload_n hc dX6_letters_20 rfl ?_
        refine G_iadd hc dX6_letters_21 ?_
        obtain ⟨v10, i_v10, e_v10, h⟩ := rb h
        refine G_iald hc 1 rfl i_v10 e_v10 dX6_letters_22 ?_
        refine G_iload_n hc dX6_letters_23 rfl ?_
        obtain ⟨t11, hr13, h⟩ := ob h
        have hj12 : G p l e (rmk 1) s m [.ref h_m, .int a1].toArray below meth c D A 4 0 0 (QI below [.ref h_m, .int a1].toArray s D A (PoI res [(h_m, .inr (6, [.ref h_m_s, .ref h_m_past, .ref h_m_held, .int m_pasts, .int m_runs0, .ref h_m_text, .int m_typed, .ref h_m_now, .ref h_m_kept, .int m_spot, .int m_reason, .int m_cause, .int m_orders, .int m_kindNow, .int m_placeNow])), (h_m_s, .inl (cI, 116, .inl m_s)), (h_m_past, .inl (cI, 464, .inl m_past)), (h_m_held, .inl (cI, 116, .inl m_held)), (h_m_text, .inl (cI, 60, .inl m_text)), (h_m_now, .inl (cI, 10, .inl m_now)), (h_m_kept, .inl (cI, 16, .inl m_kept))])) [(h_m, .inr (6, [.ref h_m_s, .ref h_m_past, .ref h_m_held, .int m_pasts, .int m_runs0, .ref h_m_text, .int m_typed, .ref h_m_now, .ref h_m_kept, .int m_spot, .int m_reason, .int m_cause, .int m_orders, .int m_kindNow, .int m_placeNow])), (h_m_s, .inl (cI, 116, .inl m_s)), (h_m_past, .inl (cI, 464, .inl m_past)), (h_m_held, .inl (cI, 116, .inl m_held)), (h_m_text, .inl (cI, 60, .inl m_text)), (h_m_now, .inl (cI, 10, .inl m_now)), (h_m_kept, .inl (cI, 16, .inl m_kept))] [(0, .ref h_m), (1, .int a1), (3, .int u2)] 32 [.int t11, .int u1] := by
          refine G_iadd hc dX6_letters_32 ?_
          obtain ⟨v15, e_v15, h⟩ := sb h
          refine G_top e_v15 ?_
          refine G_istore_n (lv' := [(0, .ref h_m), (1, .int a1), (3, .int u2), (2, .int v15)]) hc dX6_letters_33 rfl rfl ?_
          obtain ⟨v16, e_v16, h⟩ := sb h
          refine G_iinc (v := v16) (lv' := [(0, .ref h_m), (1, .int a1), (3, .int v16), (2, .int v15)]) hc dX6_letters_34 rfl (e_v16.trans rfl) rfl rfl ?_
          refine G_goto (tgt := 4) hc dX6_letters_37 (by decide) ?_
          refine G_lv (lv' := [(0, .ref h_m), (1, .int a1), (2, .int v15), (3, .int v16)]) (lsame_cons rfl (lsame_cons rfl (lsame_cons rfl (lsame_cons rfl lsame_nil)))) ?_
          exact ih7 _ _ h
        clear h
        have h := hr13
        clear hr13
        refine G_icmp_ne (tgt := 31) hc dX6_letters_24 (by decide) (fun c14 => ?_) (fun c14 => ?_)
        · have h := inn h c14
          refine G_iconst (v := 0) hc dX6_letters_31 (by decide) ?_
          have h := Option.some.inj h
          subst h
          refine G_lv (lv' := [(0, .ref h_m), (1, .int a1), (3, .int u2)]) (lsame_cons rfl (lsame_cons rfl (lsame_cons rfl lsame_nil))) ?_
          exact hj12
        · have h := ip h c14
          refine G_iconst (v := 1) hc dX6_letters_27 (by decide) ?_
          refine G_goto (tgt := 32) hc dX6_letters_28 (by decide) ?_
          have h := Option.some.inj h
          subst h
          refine G_lv (lv' := [(0, .ref h_m), (1, .int a1), (3, .int u2)]) (lsame_cons rfl (lsame_cons rfl (lsame_cons rfl lsame_nil))) ?_
          exact hj12
  refine G_lv (lv' := [(0, .ref h_m), (1, .int a1), (2, .int (0 : Int32)), (3, .int (0 : Int32))]) (lsame_cons rfl (lsame_cons rfl (lsame_cons rfl (lsame_cons rfl lsame_nil)))) ?_
  exact hL5 F _ _ hl4
set_option maxHeartbeats 4000000 in
set_option maxRecDepth 100000 in
theorem c_X6_pairs (l : Launch) (D : va_G) (cI cS : ClassId) (X : XP) (F : Nat) (h_m h_m_s h_m_past h_m_held h_m_text h_m_now h_m_kept : Nat) (m_pasts : Int32) (m_runs0 : Int32) (m_typed : Int32) (m_spot : Int32) (m_reason : Int32) (m_cause : Int32) (m_orders : Int32) (m_kindNow : Int32) (m_placeNow : Int32) (m_s : Nat → Int32) (m_past : Nat → Int32) (m_held : Nat → Int32) (m_text : Nat → Int32) (m_now : Nat → Int32) (m_kept : Nat → Int32) (a1 : Int32) {res : Int32} (h : f_X6_pairs F m_s a1 = some res) : CtI l D cI cS X yX6_pairs cX6_pairs 2 (some .int) 2 [.ref h_m, .int a1] [(h_m, .inr (6, [.ref h_m_s, .ref h_m_past, .ref h_m_held, .int m_pasts, .int m_runs0, .ref h_m_text, .int m_typed, .ref h_m_now, .ref h_m_kept, .int m_spot, .int m_reason, .int m_cause, .int m_orders, .int m_kindNow, .int m_placeNow])), (h_m_s, .inl (cI, 116, .inl m_s)), (h_m_past, .inl (cI, 464, .inl m_past)), (h_m_held, .inl (cI, 116, .inl m_held)), (h_m_text, .inl (cI, 60, .inl m_text)), (h_m_now, .inl (cI, 10, .inl m_now)), (h_m_kept, .inl (cI, 16, .inl m_kept))] (PoI res [(h_m, .inr (6, [.ref h_m_s, .ref h_m_past, .ref h_m_held, .int m_pasts, .int m_runs0, .ref h_m_text, .int m_typed, .ref h_m_now, .ref h_m_kept, .int m_spot, .int m_reason, .int m_cause, .int m_orders, .int m_kindNow, .int m_placeNow])), (h_m_s, .inl (cI, 116, .inl m_s)), (h_m_past, .inl (cI, 464, .inl m_past)), (h_m_held, .inl (cI, 116, .inl m_held)), (h_m_text, .inl (cI, 60, .inl m_text)), (h_m_now, .inl (cI, 10, .inl m_now)), (h_m_kept, .inl (cI, 16, .inl m_kept))]) := by
  refine CtI.of (by decide +kernel) rfl ?_
  intro p e s m below meth c A hc
  refine G_lv (lv' := [(0, .ref h_m), (1, .int a1)]) (lsame_cons rfl (lsame_cons rfl lsame_nil)) ?_
  unfold f_X6_pairs at h
  refine G_aload_n hc dX6_pairs_0 rfl ?_
  refine G_get hc f_X6_7 0 rfl rfl dX6_pairs_1 ?_
  refine G_iconst (v := 1) hc dX6_pairs_4 (by decide) ?_
  refine G_aload_n hc dX6_pairs_5 rfl ?_
  refine G_get hc f_X6_7 0 rfl rfl dX6_pairs_6 ?_
  refine G_iconst (v := 0) hc dX6_pairs_9 (by decide) ?_
  obtain ⟨v1, i_v1, e_v1, h⟩ := rb h
  refine G_iald hc 1 rfl i_v1 e_v1 dX6_pairs_10 ?_
  refine G_iload_n hc dX6_pairs_11 rfl ?_
  obtain ⟨z2, hu3, h⟩ := ob h
  refine G_callSI (ws2 := [(h_m, .inr (6, [.ref h_m_s, .ref h_m_past, .ref h_m_held, .int m_pasts, .int m_runs0, .ref h_m_text, .int m_typed, .ref h_m_now, .ref h_m_kept, .int m_spot, .int m_reason, .int m_cause, .int m_orders, .int m_kindNow, .int m_placeNow])), (h_m_s, .inl (cI, 116, .inl m_s)), (h_m_past, .inl (cI, 464, .inl m_past)), (h_m_held, .inl (cI, 116, .inl m_held)), (h_m_text, .inl (cI, 60, .inl m_text)), (h_m_now, .inl (cI, 10, .inl m_now)), (h_m_kept, .inl (cI, 16, .inl m_kept))]) hc m_X6_51 (c_X6_often l D cI cS X F h_m_s 116 m_s (1 : Int32) v1 a1 hu3) [1] (rmok_of (Nat.le_of_ble_eq_true rfl)) ⟨Nat.zero_le _, Nat.zero_le _⟩ rfl rfl rfl rfl rfl ⟨rfl, rfl, rfl⟩ dX6_pairs_12 ?_
  have h := Option.some.inj h
  subst h
  exact G_ireturn hc ⟨rfl, rfl⟩ dX6_pairs_15
