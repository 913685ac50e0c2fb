set_option maxHeartbeats 4000000 in
set_option maxRecDepth 100000 in
theorem c_X5_kinship (l : Launch) (D : va_G) (cI cS : ClassId) (X : XP) (F : Nat) (h_x h_x_now h_x_now_book h_x_text h_x_text_signs h_x_trial h_x_trial_state h_x_trial_state_book h_x_ways h_x_ways_stock h_x_ways_weight h_x_ways_known h_x_ways_found h_x_measured h_x_pairCounts h_past : Nat) (x_pastStates : Int32) (x_now_row : Int32) (x_now_table : Int32) (x_now_kept : Int32) (x_now_book : Nat → Int32) (x_text_length : Int32) (x_text_word : Int32) (x_text_kind : Int32) (x_text_number : Int32) (x_text_row : Int32) (x_text_reached : Int32) (x_text_broken : Int32) (x_text_signs : Nat → Int32) (x_trial_orders : Int32) (x_trial_position : Int32) (x_trial_reason : Int32) (x_trial_cause : Int32) (x_trial_state_row : Int32) (x_trial_state_table : Int32) (x_trial_state_kept : Int32) (x_trial_state_book : Nat → Int32) (x_ways_measure : Bool) (x_ways_values : Int32) (x_ways_row : Int32) (x_ways_rowCodes : Int32) (x_ways_table : Int32) (x_ways_length : Int32) (x_ways_full : Int32) (x_ways_pairs : Int32) (x_ways_codes : Int32) (x_ways_stock : Nat → Int32) (x_ways_weight : Nat → Int32) (x_ways_known : Nat → Int32) (x_ways_found : Nat → Int32) (x_measured_which : Int32) (x_measured_x : Int32) (x_measured_y : Int32) (x_measured_row : Int32) (x_measured_table : Int32) (x_pairCounts : Nat → Int32) (a1 : Int32) {res : Int32} (h : f_X5_kinship F x_now_row x_now_table x_now_kept x_now_book a1 = some res) : CtI l D cI cS X yX5_kinship cX5_kinship 4 (some .int) 5 [.ref h_x, .int a1] [(h_x, .inr (5, [.ref h_x_now, .ref h_past, .int x_pastStates, .ref h_x_text, .ref h_x_trial, .ref h_x_ways, .ref h_x_measured, .ref h_x_pairCounts])), (h_x_now, .inr (1, [.int x_now_row, .int x_now_table, .int x_now_kept, .ref h_x_now_book])), (h_x_now_book, .inl (cI, 8, .inl x_now_book)), (h_x_text, .inr (2, [.ref h_x_text_signs, .int x_text_length, .int x_text_word, .int x_text_kind, .int x_text_number, .int x_text_row, .int x_text_reached, .int x_text_broken])), (h_x_text_signs, .inl (cI, 60, .inl x_text_signs)), (h_x_trial, .inr (3, [.ref h_x_trial_state, .int x_trial_orders, .int x_trial_position, .int x_trial_reason, .int x_trial_cause])), (h_x_trial_state, .inr (1, [.int x_trial_state_row, .int x_trial_state_table, .int x_trial_state_kept, .ref h_x_trial_state_book])), (h_x_trial_state_book, .inl (cI, 8, .inl x_trial_state_book)), (h_x_ways, .inr (4, [.ref h_x_ways_stock, .ref h_x_ways_weight, .ref h_x_ways_known, .ref h_x_ways_found, nv x_ways_measure h_x_measured, .int x_ways_values, .int x_ways_row, .int x_ways_rowCodes, .int x_ways_table, .int x_ways_length, .int x_ways_full, .int x_ways_pairs, .int x_ways_codes])), (h_x_ways_stock, .inl (cI, 16, .inl x_ways_stock)), (h_x_ways_weight, .inl (cI, 16, .inl x_ways_weight)), (h_x_ways_known, .inl (cI, 577, .inl x_ways_known)), (h_x_ways_found, .inl (cI, 6347, .inl x_ways_found)), (h_x_measured, .inr (0, [.int x_measured_which, .int x_measured_x, .int x_measured_y, .int x_measured_row, .int x_measured_table])), (h_x_pairCounts, .inl (cI, 16, .inl x_pairCounts))] (PoI res [(h_x, .inr (5, [.ref h_x_now, .ref h_past, .int x_pastStates, .ref h_x_text, .ref h_x_trial, .ref h_x_ways, .ref h_x_measured, .ref h_x_pairCounts])), (h_x_now, .inr (1, [.int x_now_row, .int x_now_table, .int x_now_kept, .ref h_x_now_book])), (h_x_now_book, .inl (cI, 8, .inl x_now_book)), (h_x_text, .inr (2, [.ref h_x_text_signs, .int x_text_length, .int x_text_word, .int x_text_kind, .int x_text_number, .int x_text_row, .int x_text_reached, .int x_text_broken])), (h_x_text_signs, .inl (cI, 60, .inl x_text_signs)), (h_x_trial, .inr (3, [.ref h_x_trial_state, .int x_trial_orders, .int x_trial_position, .int x_trial_reason, .int x_trial_cause])), (h_x_trial_state, .inr (1, [.int x_trial_state_row, .int x_trial_state_table, .int x_trial_state_kept, .ref h_x_trial_state_book])), (h_x_trial_state_book, .inl (cI, 8, .inl x_trial_state_book)), (h_x_ways, .inr (4, [.ref h_x_ways_stock, .ref h_x_ways_weight, .ref h_x_ways_known, .ref h_x_ways_found, nv x_ways_measure h_x_measured, .int x_ways_values, .int x_ways_row, .int x_ways_rowCodes, .int x_ways_table, .int x_ways_length, .int x_ways_full, .int x_ways_pairs, .int x_ways_codes])), (h_x_ways_stock, .inl (cI, 16, .inl x_ways_stock)), (h_x_ways_weight, .inl (cI, 16, .inl x_ways_weight)), (h_x_ways_known, .inl (cI, 577, .inl x_ways_known)), (h_x_ways_found, .inl (cI, 6347, .inl x_ways_found)), (h_x_measured, .inr (0, [.int x_measured_which, .int x_measured_x, .int x_measured_y, .int x_measured_row, .int x_measured_table])), (h_x_pairCounts, .inl (cI, 16, .inl x_pairCounts))]) := by
  refine CtI.of (by decide +kernel) rfl ?_
  intro p e s m below meth c A hc
  refine G_lv (lv' := [(0, .ref h_x), (1, .int a1)]) (lsame_cons rfl (lsame_cons rfl lsame_nil)) ?_
  unfold f_X5_kinship at h
  refine G_iload_n hc dX5_kinship_0 rfl ?_
  refine G_if_ge (tgt := 7) hc dX5_kinship_1 (by decide) (fun c21 => ?_) (fun c21 => ?_)
  · have h := ip h c21
    refine G_iload_n hc dX5_kinship_7 rfl ?_
    refine G_aload_n hc dX5_kinship_8 rfl ?_
    refine G_get hc f_X5_10 0 rfl rfl dX5_kinship_9 ?_
    refine G_get hc f_X5_154 1 rfl rfl dX5_kinship_12 ?_
    refine G_icmp_lt (tgt := 21) hc dX5_kinship_15 (by decide) (fun c20 => ?_) (fun c20 => ?_)
    · have h := ip h c20
      refine G_aload_n hc dX5_kinship_21 rfl ?_
      refine G_get hc f_X5_10 0 rfl rfl dX5_kinship_22 ?_
      refine G_iload_n hc dX5_kinship_25 rfl ?_
      obtain ⟨z1, hu2, h⟩ := ob h
      refine G_callVI (ws2 := [(h_x, .inr (5, [.ref h_x_now, .ref h_past, .int x_pastStates, .ref h_x_text, .ref h_x_trial, .ref h_x_ways, .ref h_x_measured, .ref h_x_pairCounts])), (h_x_now, .inr (1, [.int x_now_row, .int x_now_table, .int x_now_kept, .ref h_x_now_book])), (h_x_now_book, .inl (cI, 8, .inl x_now_book)), (h_x_text, .inr (2, [.ref h_x_text_signs, .int x_text_length, .int x_text_word, .int x_text_kind, .int x_text_number, .int x_text_row, .int x_text_reached, .int x_text_broken])), (h_x_text_signs, .inl (cI, 60, .inl x_text_signs)), (h_x_trial, .inr (3, [.ref h_x_trial_state, .int x_trial_orders, .int x_trial_position, .int x_trial_reason, .int x_trial_cause])), (h_x_trial_state, .inr (1, [.int x_trial_state_row, .int x_trial_state_table, .int x_trial_state_kept, .ref h_x_trial_state_book])), (h_x_trial_state_book, .inl (cI, 8, .inl x_trial_state_book)), (h_x_ways, .inr (4, [.ref h_x_ways_stock, .ref h_x_ways_weight, .ref h_x_ways_known, .ref h_x_ways_found, nv x_ways_measure h_x_measured, .int x_ways_values, .int x_ways_row, .int x_ways_rowCodes, .int x_ways_table, .int x_ways_length, .int x_ways_full, .int x_ways_pairs, .int x_ways_codes])), (h_x_ways_stock, .inl (cI, 16, .inl x_ways_stock)), (h_x_ways_weight, .inl (cI, 16, .inl x_ways_weight)), (h_x_ways_known, .inl (cI, 577, .inl x_ways_known)), (h_x_ways_found, .inl (cI, 6347, .inl x_ways_found)), (h_x_measured, .inr (0, [.int x_measured_which, .int x_measured_x, .int x_measured_y, .int x_measured_row, .int x_measured_table])), (h_x_pairCounts, .inl (cI, 16, .inl x_pairCounts))]) hc m_X5_160 (c_X1_keptRow l D cI cS X F h_x_now h_x_now_book x_now_row x_now_table x_now_kept x_now_book a1 hu2) 1 [1, 2] rfl rfl (rmok_of (Nat.le_of_ble_eq_true rfl)) ⟨Nat.zero_le _, Nat.zero_le _⟩ rfl rfl rfl rfl rfl ⟨rfl, rfl, rfl⟩ dX5_kinship_26 ?_
      refine G_istore_n (lv' := [(0, .ref h_x), (1, .int a1), (2, .int z1)]) hc dX5_kinship_29 rfl rfl ?_
      refine G_iconst (v := 0) hc dX5_kinship_30 (by decide) ?_
      refine G_istore_n (lv' := [(0, .ref h_x), (1, .int a1), (2, .int z1), (3, .int (0 : Int32))]) hc dX5_kinship_31 rfl rfl ?_
      obtain ⟨e4, hl5, h⟩ := ob h
      have hK9 : ∀ ax11, e4 = (Sum.inl ax11) → G p l e (rmk 5) s m [.ref h_x, .int a1].toArray below meth c D A 4 0 0 (QI below [.ref h_x, .int a1].toArray s D A (PoI res [(h_x, .inr (5, [.ref h_x_now, .ref h_past, .int x_pastStates, .ref h_x_text, .ref h_x_trial, .ref h_x_ways, .ref h_x_measured, .ref h_x_pairCounts])), (h_x_now, .inr (1, [.int x_now_row, .int x_now_table, .int x_now_kept, .ref h_x_now_book])), (h_x_now_book, .inl (cI, 8, .inl x_now_book)), (h_x_text, .inr (2, [.ref h_x_text_signs, .int x_text_length, .int x_text_word, .int x_text_kind, .int x_text_number, .int x_text_row, .int x_text_reached, .int x_text_broken])), (h_x_text_signs, .inl (cI, 60, .inl x_text_signs)), (h_x_trial, .inr (3, [.ref h_x_trial_state, .int x_trial_orders, .int x_trial_position, .int x_trial_reason, .int x_trial_cause])), (h_x_trial_state, .inr (1, [.int x_trial_state_row, .int x_trial_state_table, .int x_trial_state_kept, .ref h_x_trial_state_book])), (h_x_trial_state_book, .inl (cI, 8, .inl x_trial_state_book)), (h_x_ways, .inr (4, [.ref h_x_ways_stock, .ref h_x_ways_weight, .ref h_x_ways_known, .ref h_x_ways_found, nv x_ways_measure h_x_measured, .int x_ways_values, .int x_ways_row, .int x_ways_rowCodes, .int x_ways_table, .int x_ways_length, .int x_ways_full, .int x_ways_pairs, .int x_ways_codes])), (h_x_ways_stock, .inl (cI, 16, .inl x_ways_stock)), (h_x_ways_weight, .inl (cI, 16, .inl x_ways_weight)), (h_x_ways_known, .inl (cI, 577, .inl x_ways_known)), (h_x_ways_found, .inl (cI, 6347, .inl x_ways_found)), (h_x_measured, .inr (0, [.int x_measured_which, .int x_measured_x, .int x_measured_y, .int x_measured_row, .int x_measured_table])), (h_x_pairCounts, .inl (cI, 16, .inl x_pairCounts))])) [(h_x, .inr (5, [.ref h_x_now, .ref h_past, .int x_pastStates, .ref h_x_text, .ref h_x_trial, .ref h_x_ways, .ref h_x_measured, .ref h_x_pairCounts])), (h_x_now, .inr (1, [.int x_now_row, .int x_now_table, .int x_now_kept, .ref h_x_now_book])), (h_x_now_book, .inl (cI, 8, .inl x_now_book)), (h_x_text, .inr (2, [.ref h_x_text_signs, .int x_text_length, .int x_text_word, .int x_text_kind, .int x_text_number, .int x_text_row, .int x_text_reached, .int x_text_broken])), (h_x_text_signs, .inl (cI, 60, .inl x_text_signs)), (h_x_trial, .inr (3, [.ref h_x_trial_state, .int x_trial_orders, .int x_trial_position, .int x_trial_reason, .int x_trial_cause])), (h_x_trial_state, .inr (1, [.int x_trial_state_row, .int x_trial_state_table, .int x_trial_state_kept, .ref h_x_trial_state_book])), (h_x_trial_state_book, .inl (cI, 8, .inl x_trial_state_book)), (h_x_ways, .inr (4, [.ref h_x_ways_stock, .ref h_x_ways_weight, .ref h_x_ways_known, .ref h_x_ways_found, nv x_ways_measure h_x_measured, .int x_ways_values, .int x_ways_row, .int x_ways_rowCodes, .int x_ways_table, .int x_ways_length, .int x_ways_full, .int x_ways_pairs, .int x_ways_codes])), (h_x_ways_stock, .inl (cI, 16, .inl x_ways_stock)), (h_x_ways_weight, .inl (cI, 16, .inl x_ways_weight)), (h_x_ways_known, .inl (cI, 577, .inl x_ways_known)), (h_x_ways_found, .inl (cI, 6347, .inl x_ways_found)), (h_x_measured, .inr (0, [.int x_measured_which, .int x_measured_x, .int x_measured_y, .int x_measured_row, .int x_measured_table])), (h_x_pairCounts, .inl (cI, 16, .inl x_pairCounts))] [(3, .int ax11)] 53 [] := by
        intro ax11 he
        subst he
        simp only [Sum.elim_inl, Sum.elim_inr] at h
        refine G_kogets hc s_X5_163 dX5_kinship_53 ?_
        refine G_iload_n hc dX5_kinship_56 rfl ?_
        obtain ⟨v19, i_v19, e_v19, h⟩ := rb h
        refine G_koald hc i_v19 e_v19 dX5_kinship_57 ?_
        have h := Option.some.inj h
        subst h
        exact G_ireturn hc ⟨rfl, rfl⟩ dX5_kinship_58
      have hK10 : ∀ ax12, e4 = (Sum.inr ax12) → G p l e (rmk 5) s m [.ref h_x, .int a1].toArray below meth c D A 4 0 0 (QI below [.ref h_x, .int a1].toArray s D A (PoI res [(h_x, .inr (5, [.ref h_x_now, .ref h_past, .int x_pastStates, .ref h_x_text, .ref h_x_trial, .ref h_x_ways, .ref h_x_measured, .ref h_x_pairCounts])), (h_x_now, .inr (1, [.int x_now_row, .int x_now_table, .int x_now_kept, .ref h_x_now_book])), (h_x_now_book, .inl (cI, 8, .inl x_now_book)), (h_x_text, .inr (2, [.ref h_x_text_signs, .int x_text_length, .int x_text_word, .int x_text_kind, .int x_text_number, .int x_text_row, .int x_text_reached, .int x_text_broken])), (h_x_text_signs, .inl (cI, 60, .inl x_text_signs)), (h_x_trial, .inr (3, [.ref h_x_trial_state, .int x_trial_orders, .int x_trial_position, .int x_trial_reason, .int x_trial_cause])), (h_x_trial_state, .inr (1, [.int x_trial_state_row, .int x_trial_state_table, .int x_trial_state_kept, .ref h_x_trial_state_book])), (h_x_trial_state_book, .inl (cI, 8, .inl x_trial_state_book)), (h_x_ways, .inr (4, [.ref h_x_ways_stock, .ref h_x_ways_weight, .ref h_x_ways_known, .ref h_x_ways_found, nv x_ways_measure h_x_measured, .int x_ways_values, .int x_ways_row, .int x_ways_rowCodes, .int x_ways_table, .int x_ways_length, .int x_ways_full, .int x_ways_pairs, .int x_ways_codes])), (h_x_ways_stock, .inl (cI, 16, .inl x_ways_stock)), (h_x_ways_weight, .inl (cI, 16, .inl x_ways_weight)), (h_x_ways_known, .inl (cI, 577, .inl x_ways_known)), (h_x_ways_found, .inl (cI, 6347, .inl x_ways_found)), (h_x_measured, .inr (0, [.int x_measured_which, .int x_measured_x, .int x_measured_y, .int x_measured_row, .int x_measured_table])), (h_x_pairCounts, .inl (cI, 16, .inl x_pairCounts))])) [(h_x, .inr (5, [.ref h_x_now, .ref h_past, .int x_pastStates, .ref h_x_text, .ref h_x_trial, .ref h_x_ways, .ref h_x_measured, .ref h_x_pairCounts])), (h_x_now, .inr (1, [.int x_now_row, .int x_now_table, .int x_now_kept, .ref h_x_now_book])), (h_x_now_book, .inl (cI, 8, .inl x_now_book)), (h_x_text, .inr (2, [.ref h_x_text_signs, .int x_text_length, .int x_text_word, .int x_text_kind, .int x_text_number, .int x_text_row, .int x_text_reached, .int x_text_broken])), (h_x_text_signs, .inl (cI, 60, .inl x_text_signs)), (h_x_trial, .inr (3, [.ref h_x_trial_state, .int x_trial_orders, .int x_trial_position, .int x_trial_reason, .int x_trial_cause])), (h_x_trial_state, .inr (1, [.int x_trial_state_row, .int x_trial_state_table, .int x_trial_state_kept, .ref h_x_trial_state_book])), (h_x_trial_state_book, .inl (cI, 8, .inl x_trial_state_book)), (h_x_ways, .inr (4, [.ref h_x_ways_stock, .ref h_x_ways_weight, .ref h_x_ways_known, .ref h_x_ways_found, nv x_ways_measure h_x_measured, .int x_ways_values, .int x_ways_row, .int x_ways_rowCodes, .int x_ways_table, .int x_ways_length, .int x_ways_full, .int x_ways_pairs, .int x_ways_codes])), (h_x_ways_stock, .inl (cI, 16, .inl x_ways_stock)), (h_x_ways_weight, .inl (cI, 16, .inl x_ways_weight)), (h_x_ways_known, .inl (cI, 577, .inl x_ways_known)), (h_x_ways_found, .inl (cI, 6347, .inl x_ways_found)), (h_x_measured, .inr (0, [.int x_measured_which, .int x_measured_x, .int x_measured_y, .int x_measured_row, .int x_measured_table])), (h_x_pairCounts, .inl (cI, 16, .inl x_pairCounts))] [] 65 [] := by
        intro ax12 he
        subst he
        simp only [Sum.elim_inl, Sum.elim_inr] at h
        refine G_ldc (v := -1000004) hc k_X5_91 dX5_kinship_65 ?_
        have h := Option.some.inj h
        subst h
        exact G_ireturn hc ⟨rfl, rfl⟩ dX5_kinship_67
      clear h
      have hL6 : ∀ (n7 : Nat) (u3 : Int32), f_X5_kinship_L32 F x_now_row x_now_table z1 n7 u3 = some e4 → G p l e (rmk 5) s m [.ref h_x, .int a1].toArray below meth c D A 4 0 0 (QI below [.ref h_x, .int a1].toArray s D A (PoI res [(h_x, .inr (5, [.ref h_x_now, .ref h_past, .int x_pastStates, .ref h_x_text, .ref h_x_trial, .ref h_x_ways, .ref h_x_measured, .ref h_x_pairCounts])), (h_x_now, .inr (1, [.int x_now_row, .int x_now_table, .int x_now_kept, .ref h_x_now_book])), (h_x_now_book, .inl (cI, 8, .inl x_now_book)), (h_x_text, .inr (2, [.ref h_x_text_signs, .int x_text_length, .int x_text_word, .int x_text_kind, .int x_text_number, .int x_text_row, .int x_text_reached, .int x_text_broken])), (h_x_text_signs, .inl (cI, 60, .inl x_text_signs)), (h_x_trial, .inr (3, [.ref h_x_trial_state, .int x_trial_orders, .int x_trial_position, .int x_trial_reason, .int x_trial_cause])), (h_x_trial_state, .inr (1, [.int x_trial_state_row, .int x_trial_state_table, .int x_trial_state_kept, .ref h_x_trial_state_book])), (h_x_trial_state_book, .inl (cI, 8, .inl x_trial_state_book)), (h_x_ways, .inr (4, [.ref h_x_ways_stock, .ref h_x_ways_weight, .ref h_x_ways_known, .ref h_x_ways_found, nv x_ways_measure h_x_measured, .int x_ways_values, .int x_ways_row, .int x_ways_rowCodes, .int x_ways_table, .int x_ways_length, .int x_ways_full, .int x_ways_pairs, .int x_ways_codes])), (h_x_ways_stock, .inl (cI, 16, .inl x_ways_stock)), (h_x_ways_weight, .inl (cI, 16, .inl x_ways_weight)), (h_x_ways_known, .inl (cI, 577, .inl x_ways_known)), (h_x_ways_found, .inl (cI, 6347, .inl x_ways_found)), (h_x_measured, .inr (0, [.int x_measured_which, .int x_measured_x, .int x_measured_y, .int x_measured_row, .int x_measured_table])), (h_x_pairCounts, .inl (cI, 16, .inl x_pairCounts))])) [(h_x, .inr (5, [.ref h_x_now, .ref h_past, .int x_pastStates, .ref h_x_text, .ref h_x_trial, .ref h_x_ways, .ref h_x_measured, .ref h_x_pairCounts])), (h_x_now, .inr (1, [.int x_now_row, .int x_now_table, .int x_now_kept, .ref h_x_now_book])), (h_x_now_book, .inl (cI, 8, .inl x_now_book)), (h_x_text, .inr (2, [.ref h_x_text_signs, .int x_text_length, .int x_text_word, .int x_text_kind, .int x_text_number, .int x_text_row, .int x_text_reached, .int x_text_broken])), (h_x_text_signs, .inl (cI, 60, .inl x_text_signs)), (h_x_trial, .inr (3, [.ref h_x_trial_state, .int x_trial_orders, .int x_trial_position, .int x_trial_reason, .int x_trial_cause])), (h_x_trial_state, .inr (1, [.int x_trial_state_row, .int x_trial_state_table, .int x_trial_state_kept, .ref h_x_trial_state_book])), (h_x_trial_state_book, .inl (cI, 8, .inl x_trial_state_book)), (h_x_ways, .inr (4, [.ref h_x_ways_stock, .ref h_x_ways_weight, .ref h_x_ways_known, .ref h_x_ways_found, nv x_ways_measure h_x_measured, .int x_ways_values, .int x_ways_row, .int x_ways_rowCodes, .int x_ways_table, .int x_ways_length, .int x_ways_full, .int x_ways_pairs, .int x_ways_codes])), (h_x_ways_stock, .inl (cI, 16, .inl x_ways_stock)), (h_x_ways_weight, .inl (cI, 16, .inl x_ways_weight)), (h_x_ways_known, .inl (cI, 577, .inl x_ways_known)), (h_x_ways_found, .inl (cI, 6347, .inl x_ways_found)), (h_x_measured, .inr (0, [.int x_measured_which, .int x_measured_x, .int x_measured_y, .int x_measured_row, .int x_measured_table])), (h_x_pairCounts, .inl (cI, 16, .inl x_pairCounts))] [(0, .ref h_x), (2, .int z1), (3, .int u3)] 32 [] := by
        intro n7
        induction n7 with
        | zero =>
          intro u3 h
          exact nz h
        | succ n7 ih8 =>
          intro u3 h
          rw [f_X5_kinship_L32] at h
          refine G_iload_n hc dX5_kinship_32 rfl ?_
          refine G_kogets hc s_X5_163 dX5_kinship_33 ?_
          refine G_kolen hc dX5_kinship_36 ?_
          refine G_icmp_ge (tgt := 65) hc dX5_kinship_37 (by decide) (fun c18 => ?_) (fun c18 => ?_)
          · have h := ip h c18
            have h := Option.some.inj h
            subst h
            refine G_lv (lv' := []) lsame_nil ?_
            exact hK10 _ rfl
          · have h := inn h c18
            refine G_aload_n hc dX5_kinship_40 rfl ?_
            refine G_kogets hc s_X5_163 dX5_kinship_41 ?_
            refine G_iload_n hc dX5_kinship_44 rfl ?_
            obtain ⟨v13, i_v13, e_v13, h⟩ := rb h
            refine G_koald hc i_v13 e_v13 dX5_kinship_45 ?_
            refine G_iload_n hc dX5_kinship_46 rfl ?_
            obtain ⟨z14, hu15, h⟩ := ob h
            refine G_callVI (ws2 := [(h_x, .inr (5, [.ref h_x_now, .ref h_past, .int x_pastStates, .ref h_x_text, .ref h_x_trial, .ref h_x_ways, .ref h_x_measured, .ref h_x_pairCounts])), (h_x_now, .inr (1, [.int x_now_row, .int x_now_table, .int x_now_kept, .ref h_x_now_book])), (h_x_now_book, .inl (cI, 8, .inl x_now_book)), (h_x_text, .inr (2, [.ref h_x_text_signs, .int x_text_length, .int x_text_word, .int x_text_kind, .int x_text_number, .int x_text_row, .int x_text_reached, .int x_text_broken])), (h_x_text_signs, .inl (cI, 60, .inl x_text_signs)), (h_x_trial, .inr (3, [.ref h_x_trial_state, .int x_trial_orders, .int x_trial_position, .int x_trial_reason, .int x_trial_cause])), (h_x_trial_state, .inr (1, [.int x_trial_state_row, .int x_trial_state_table, .int x_trial_state_kept, .ref h_x_trial_state_book])), (h_x_trial_state_book, .inl (cI, 8, .inl x_trial_state_book)), (h_x_ways, .inr (4, [.ref h_x_ways_stock, .ref h_x_ways_weight, .ref h_x_ways_known, .ref h_x_ways_found, nv x_ways_measure h_x_measured, .int x_ways_values, .int x_ways_row, .int x_ways_rowCodes, .int x_ways_table, .int x_ways_length, .int x_ways_full, .int x_ways_pairs, .int x_ways_codes])), (h_x_ways_stock, .inl (cI, 16, .inl x_ways_stock)), (h_x_ways_weight, .inl (cI, 16, .inl x_ways_weight)), (h_x_ways_known, .inl (cI, 577, .inl x_ways_known)), (h_x_ways_found, .inl (cI, 6347, .inl x_ways_found)), (h_x_measured, .inr (0, [.int x_measured_which, .int x_measured_x, .int x_measured_y, .int x_measured_row, .int x_measured_table])), (h_x_pairCounts, .inl (cI, 16, .inl x_pairCounts))]) hc m_X5_166 (c_X5_isShuffle l D cI cS X F h_x h_x_now h_x_now_book h_x_text h_x_text_signs h_x_trial h_x_trial_state h_x_trial_state_book h_x_ways h_x_ways_stock h_x_ways_weight h_x_ways_known h_x_ways_found h_x_measured h_x_pairCounts h_past x_pastStates x_now_row x_now_table x_now_kept x_now_book x_text_length x_text_word x_text_kind x_text_number x_text_row x_text_reached x_text_broken x_text_signs x_trial_orders x_trial_position x_trial_reason x_trial_cause x_trial_state_row x_trial_state_table x_trial_state_kept x_trial_state_book x_ways_measure x_ways_values x_ways_row x_ways_rowCodes x_ways_table x_ways_length x_ways_full x_ways_pairs x_ways_codes x_ways_stock x_ways_weight x_ways_known x_ways_found x_measured_which x_measured_x x_measured_y x_measured_row x_measured_table x_pairCounts v13 z1 hu15) 0 [0, 1, 2, 3, 4, 5, 6, 7, 8, 9, 10, 11, 12, 13, 14] rfl rfl (rmok_of (Nat.le_of_ble_eq_true rfl)) ⟨Nat.zero_le _, Nat.zero_le _⟩ rfl rfl rfl rfl rfl ⟨rfl, rfl, rfl⟩ dX5_kinship_47 ?_
            refine G_if_eq (tgt := 59) hc dX5_kinship_50 (by decide) (fun c17 => ?_) (fun c17 => ?_)
            · have h := ip h c17
              obtain ⟨v16, e_v16, h⟩ := sb h
              refine G_iinc (v := v16) (lv' := [(0, .ref h_x), (2, .int z1), (3, .int v16)]) hc dX5_kinship_59 rfl (e_v16.trans rfl) rfl rfl ?_
              refine G_goto (tgt := 32) hc dX5_kinship_62 (by decide) ?_
              refine G_lv (lv' := [(0, .ref h_x), (2, .int z1), (3, .int v16)]) (lsame_cons rfl (lsame_cons rfl (lsame_cons rfl lsame_nil))) ?_
              exact ih8 _ h
            · have h := inn h c17
              have h := Option.some.inj h
              subst h
              refine G_lv (lv' := [(3, .int u3)]) (lsame_cons rfl lsame_nil) ?_
              exact hK9 _ rfl
      refine G_lv (lv' := [(0, .ref h_x), (2, .int z1), (3, .int (0 : Int32))]) (lsame_cons rfl (lsame_cons rfl (lsame_cons rfl lsame_nil))) ?_
      exact hL6 F _ hl5
    · have h := inn h c20
      refine G_ldc (v := -1000004) hc k_X5_91 dX5_kinship_18 ?_
      have h := Option.some.inj h
      subst h
      exact G_ireturn hc ⟨rfl, rfl⟩ dX5_kinship_20
  · have h := inn h c21
    refine G_ldc (v := -1000001) hc k_X5_56 dX5_kinship_4 ?_
    have h := Option.some.inj h
    subst h
    exact G_ireturn hc ⟨rfl, rfl⟩ dX5_kinship_6
set_option maxHeartbeats 4000000 in
set_option maxRecDepth 100000 in
theorem c_X5_unlikeLetters (l : Launch) (D : va_G) (cI cS : ClassId) (X : XP) (F : Nat) (h_x h_x_now h_x_now_book h_x_text h_x_text_signs h_x_trial h_x_trial_state h_x_trial_state_book h_x_ways h_x_ways_stock h_x_ways_weight h_x_ways_known h_x_ways_found h_x_measured h_x_pairCounts h_past : Nat) (x_pastStates : Int32) (x_now_row : Int32) (x_now_table : Int32) (x_now_kept : Int32) (x_now_book : Nat → Int32) (x_text_length : Int32) (x_text_word : Int32) (x_text_kind : Int32) (x_text_number : Int32) (x_text_row : Int32) (x_text_reached : Int32) (x_text_broken : Int32) (x_text_signs : Nat → Int32) (x_trial_orders : Int32) (x_trial_position : Int32) (x_trial_reason : Int32) (x_trial_cause : Int32) (x_trial_state_row : Int32) (x_trial_state_table : Int32) (x_trial_state_kept : Int32) (x_trial_state_book : Nat → Int32) (x_ways_measure : Bool) (x_ways_values : Int32) (x_ways_row : Int32) (x_ways_rowCodes : Int32) (x_ways_table : Int32) (x_ways_length : Int32) (x_ways_full : Int32) (x_ways_pairs : Int32) (x_ways_codes : Int32) (x_ways_stock : Nat → Int32) (x_ways_weight : Nat → Int32) (x_ways_known : Nat → Int32) (x_ways_found : Nat → Int32) (x_measured_which : Int32) (x_measured_x : Int32) (x_measured_y : Int32) (x_measured_row : Int32) (x_measured_table : Int32) (x_pairCounts : Nat → Int32) {res : Int32} (h : f_X5_unlikeLetters F x_now_row = some res) : CtI l D cI cS X yX5_unlikeLetters cX5_unlikeLetters 3 (some .int) 3 [.ref h_x] [(h_x, .inr (5, [.ref h_x_now, .ref h_past, .int x_pastStates, .ref h_x_text, .ref h_x_trial, .ref h_x_ways, .ref h_x_measured, .ref h_x_pairCounts])), (h_x_now, .inr (1, [.int x_now_row, .int x_now_table, .int x_now_kept, .ref h_x_now_book])), (h_x_now_book, .inl (cI, 8, .inl x_now_book)), (h_x_text, .inr (2, [.ref h_x_text_signs, .int x_text_length, .int x_text_word, .int x_text_kind, .int x_text_number, .int x_text_row, .int x_text_reached, .int x_text_broken])), (h_x_text_signs, .inl (cI, 60, .inl x_text_signs)), (h_x_trial, .inr (3, [.ref h_x_trial_state, .int x_trial_orders, .int x_trial_position, .int x_trial_reason, .int x_trial_cause])), (h_x_trial_state, .inr (1, [.int x_trial_state_row, .int x_trial_state_table, .int x_trial_state_kept, .ref h_x_trial_state_book])), (h_x_trial_state_book, .inl (cI, 8, .inl x_trial_state_book)), (h_x_ways, .inr (4, [.ref h_x_ways_stock, .ref h_x_ways_weight, .ref h_x_ways_known, .ref h_x_ways_found, nv x_ways_measure h_x_measured, .int x_ways_values, .int x_ways_row, .int x_ways_rowCodes, .int x_ways_table, .int x_ways_length, .int x_ways_full, .int x_ways_pairs, .int x_ways_codes])), (h_x_ways_stock, .inl (cI, 16, .inl x_ways_stock)), (h_x_ways_weight, .inl (cI, 16, .inl x_ways_weight)), (h_x_ways_known, .inl (cI, 577, .inl x_ways_known)), (h_x_ways_found, .inl (cI, 6347, .inl x_ways_found)), (h_x_measured, .inr (0, [.int x_measured_which, .int x_measured_x, .int x_measured_y, .int x_measured_row, .int x_measured_table])), (h_x_pairCounts, .inl (cI, 16, .inl x_pairCounts))] (PoI res [(h_x, .inr (5, [.ref h_x_now, .ref h_past, .int x_pastStates, .ref h_x_text, .ref h_x_trial, .ref h_x_ways, .ref h_x_measured, .ref h_x_pairCounts])), (h_x_now, .inr (1, [.int x_now_row, .int x_now_table, .int x_now_kept, .ref h_x_now_book])), (h_x_now_book, .inl (cI, 8, .inl x_now_book)), (h_x_text, .inr (2, [.ref h_x_text_signs, .int x_text_length, .int x_text_word, .int x_text_kind, .int x_text_number, .int x_text_row, .int x_text_reached, .int x_text_broken])), (h_x_text_signs, .inl (cI, 60, .inl x_text_signs)), (h_x_trial, .inr (3, [.ref h_x_trial_state, .int x_trial_orders, .int x_trial_position, .int x_trial_reason, .int x_trial_cause])), (h_x_trial_state, .inr (1, [.int x_trial_state_row, .int x_trial_state_table, .int x_trial_state_kept, .ref h_x_trial_state_book])), (h_x_trial_state_book, .inl (cI, 8, .inl x_trial_state_book)), (h_x_ways, .inr (4, [.ref h_x_ways_stock, .ref h_x_ways_weight, .ref h_x_ways_known, .ref h_x_ways_found, nv x_ways_measure h_x_measured, .int x_ways_values, .int x_ways_row, .int x_ways_rowCodes, .int x_ways_table, .int x_ways_length, .int x_ways_full, .int x_ways_pairs, .int x_ways_codes])), (h_x_ways_stock, .inl (cI, 16, .inl x_ways_stock)), (h_x_ways_weight, .inl (cI, 16, .inl x_ways_weight)), (h_x_ways_known, .inl (cI, 577, .inl x_ways_known)), (h_x_ways_found, .inl (cI, 6347, .inl x_ways_found)), (h_x_measured, .inr (0, [.int x_measured_which, .int x_measured_x, .int x_measured_y, .int x_measured_row, .int x_measured_table])), (h_x_pairCounts, .inl (cI, 16, .inl x_pairCounts))]) := by
  refine CtI.of (by decide +kernel) rfl ?_
  intro p e s m below meth c A hc
  refine G_lv (lv' := [(0, .ref h_x)]) (lsame_cons rfl lsame_nil) ?_
  unfold f_X5_unlikeLetters at h
  refine G_iconst (v := 0) hc dX5_unlikeLetters_0 (by decide) ?_
  refine G_istore_n (lv' := [(0, .ref h_x), (1, .int (0 : Int32))]) hc dX5_unlikeLetters_1 rfl rfl ?_
  refine G_iconst (v := 0) hc dX5_unlikeLetters_2 (by decide) ?_
  refine G_istore_n (lv' := [(0, .ref h_x), (1, .int (0 : Int32)), (2, .int (0 : Int32))]) hc dX5_unlikeLetters_3 rfl rfl ?_
  obtain ⟨e3, hl4, h⟩ := ob h
  have hK8 : G p l e (rmk 3) s m [.ref h_x].toArray below meth c D A 3 0 0 (QI below [.ref h_x].toArray s D A (PoI res [(h_x, .inr (5, [.ref h_x_now, .ref h_past, .int x_pastStates, .ref h_x_text, .ref h_x_trial, .ref h_x_ways, .ref h_x_measured, .ref h_x_pairCounts])), (h_x_now, .inr (1, [.int x_now_row, .int x_now_table, .int x_now_kept, .ref h_x_now_book])), (h_x_now_book, .inl (cI, 8, .inl x_now_book)), (h_x_text, .inr (2, [.ref h_x_text_signs, .int x_text_length, .int x_text_word, .int x_text_kind, .int x_text_number, .int x_text_row, .int x_text_reached, .int x_text_broken])), (h_x_text_signs, .inl (cI, 60, .inl x_text_signs)), (h_x_trial, .inr (3, [.ref h_x_trial_state, .int x_trial_orders, .int x_trial_position, .int x_trial_reason, .int x_trial_cause])), (h_x_trial_state, .inr (1, [.int x_trial_state_row, .int x_trial_state_table, .int x_trial_state_kept, .ref h_x_trial_state_book])), (h_x_trial_state_book, .inl (cI, 8, .inl x_trial_state_book)), (h_x_ways, .inr (4, [.ref h_x_ways_stock, .ref h_x_ways_weight, .ref h_x_ways_known, .ref h_x_ways_found, nv x_ways_measure h_x_measured, .int x_ways_values, .int x_ways_row, .int x_ways_rowCodes, .int x_ways_table, .int x_ways_length, .int x_ways_full, .int x_ways_pairs, .int x_ways_codes])), (h_x_ways_stock, .inl (cI, 16, .inl x_ways_stock)), (h_x_ways_weight, .inl (cI, 16, .inl x_ways_weight)), (h_x_ways_known, .inl (cI, 577, .inl x_ways_known)), (h_x_ways_found, .inl (cI, 6347, .inl x_ways_found)), (h_x_measured, .inr (0, [.int x_measured_which, .int x_measured_x, .int x_measured_y, .int x_measured_row, .int x_measured_table])), (h_x_pairCounts, .inl (cI, 16, .inl x_pairCounts))])) [(h_x, .inr (5, [.ref h_x_now, .ref h_past, .int x_pastStates, .ref h_x_text, .ref h_x_trial, .ref h_x_ways, .ref h_x_measured, .ref h_x_pairCounts])), (h_x_now, .inr (1, [.int x_now_row, .int x_now_table, .int x_now_kept, .ref h_x_now_book])), (h_x_now_book, .inl (cI, 8, .inl x_now_book)), (h_x_text, .inr (2, [.ref h_x_text_signs, .int x_text_length, .int x_text_word, .int x_text_kind, .int x_text_number, .int x_text_row, .int x_text_reached, .int x_text_broken])), (h_x_text_signs, .inl (cI, 60, .inl x_text_signs)), (h_x_trial, .inr (3, [.ref h_x_trial_state, .int x_trial_orders, .int x_trial_position, .int x_trial_reason, .int x_trial_cause])), (h_x_trial_state, .inr (1, [.int x_trial_state_row, .int x_trial_state_table, .int x_trial_state_kept, .ref h_x_trial_state_book])), (h_x_trial_state_book, .inl (cI, 8, .inl x_trial_state_book)), (h_x_ways, .inr (4, [.ref h_x_ways_stock, .ref h_x_ways_weight, .ref h_x_ways_known, .ref h_x_ways_found, nv x_ways_measure h_x_measured, .int x_ways_values, .int x_ways_row, .int x_ways_rowCodes, .int x_ways_table, .int x_ways_length, .int x_ways_full, .int x_ways_pairs, .int x_ways_codes])), (h_x_ways_stock, .inl (cI, 16, .inl x_ways_stock)), (h_x_ways_weight, .inl (cI, 16, .inl x_ways_weight)), (h_x_ways_known, .inl (cI, 577, .inl x_ways_known)), (h_x_ways_found, .inl (cI, 6347, .inl x_ways_found)), (h_x_measured, .inr (0, [.int x_measured_which, .int x_measured_x, .int x_measured_y, .int x_measured_row, .int x_measured_table])), (h_x_pairCounts, .inl (cI, 16, .inl x_pairCounts))] [(1, .int e3)] 32 [] := by
    refine G_iload_n hc dX5_unlikeLetters_32 rfl ?_
    have h := Option.some.inj h
    subst h
    exact G_ireturn hc ⟨rfl, rfl⟩ dX5_unlikeLetters_33
  clear h
  have hL5 : ∀ (n6 : Nat) (u1 : Int32) (u2 : Int32), f_X5_unlikeLetters_L4 F x_now_row n6 u1 u2 = some e3 → G p l e (rmk 3) s m [.ref h_x].toArray below meth c D A 3 0 0 (QI below [.ref h_x].toArray s D A (PoI res [(h_x, .inr (5, [.ref h_x_now, .ref h_past, .int x_pastStates, .ref h_x_text, .ref h_x_trial, .ref h_x_ways, .ref h_x_measured, .ref h_x_pairCounts])), (h_x_now, .inr (1, [.int x_now_row, .int x_now_table, .int x_now_kept, .ref h_x_now_book])), (h_x_now_book, .inl (cI, 8, .inl x_now_book)), (h_x_text, .inr (2, [.ref h_x_text_signs, .int x_text_length, .int x_text_word, .int x_text_kind, .int x_text_number, .int x_text_row, .int x_text_reached, .int x_text_broken])), (h_x_text_signs, .inl (cI, 60, .inl x_text_signs)), (h_x_trial, .inr (3, [.ref h_x_trial_state, .int x_trial_orders, .int x_trial_position, .int x_trial_reason, .int x_trial_cause])), (h_x_trial_state, .inr (1, [.int x_trial_state_row, .int x_trial_state_table, .int x_trial_state_kept, .ref h_x_trial_state_book])), (h_x_trial_state_book, .inl (cI, 8, .inl x_trial_state_book)), (h_x_ways, .inr (4, [.ref h_x_ways_stock, .ref h_x_ways_weight, .ref h_x_ways_known, .ref h_x_ways_found, nv x_ways_measure h_x_measured, .int x_ways_values, .int x_ways_row, .int x_ways_rowCodes, .int x_ways_table, .int x_ways_length, .int x_ways_full, .int x_ways_pairs, .int x_ways_codes])), (h_x_ways_stock, .inl (cI, 16, .inl x_ways_stock)), (h_x_ways_weight, .inl (cI, 16, .inl x_ways_weight)), (h_x_ways_known, .inl (cI, 577, .inl x_ways_known)), (h_x_ways_found, .inl (cI, 6347, .inl x_ways_found)), (h_x_measured, .inr (0, [.int x_measured_which, .int x_measured_x, .int x_measured_y, .int x_measured_row, .int x_measured_table])), (h_x_pairCounts, .inl (cI, 16, .inl x_pairCounts))])) [(h_x, .inr (5, [.ref h_x_now, .ref h_past, .int x_pastStates, .ref h_x_text, .ref h_x_trial, .ref h_x_ways, .ref h_x_measured, .ref h_x_pairCounts])), (h_x_now, .inr (1, [.int x_now_row, .int x_now_table, .int x_now_kept, .ref h_x_now_book])), (h_x_now_book, .inl (cI, 8, .inl x_now_book)), (h_x_text, .inr (2, [.ref h_x_text_signs, .int x_text_length, .int x_text_word, .int x_text_kind, .int x_text_number, .int x_text_row, .int x_text_reached, .int x_text_broken])), (h_x_text_signs, .inl (cI, 60, .inl x_text_signs)), (h_x_trial, .inr (3, [.ref h_x_trial_state, .int x_trial_orders, .int x_trial_position, .int x_trial_reason, .int x_trial_cause])), (h_x_trial_state, .inr (1, [.int x_trial_state_row, .int x_trial_state_table, .int x_trial_state_kept, .ref h_x_trial_state_book])), (h_x_trial_state_book, .inl (cI, 8, .inl x_trial_state_book)), (h_x_ways, .inr (4, [.ref h_x_ways_stock, .ref h_x_ways_weight, .ref h_x_ways_known, .ref h_x_ways_found, nv x_ways_measure h_x_measured, .int x_ways_values, .int x_ways_row, .int x_ways_rowCodes, .int x_ways_table, .int x_ways_length, .int x_ways_full, .int x_ways_pairs, .int x_ways_codes])), (h_x_ways_stock, .inl (cI, 16, .inl x_ways_stock)), (h_x_ways_weight, .inl (cI, 16, .inl x_ways_weight)), (h_x_ways_known, .inl (cI, 577, .inl x_ways_known)), (h_x_ways_found, .inl (cI, 6347, .inl x_ways_found)), (h_x_measured, .inr (0, [.int x_measured_which, .int x_measured_x, .int x_measured_y, .int x_measured_row, .int x_measured_table])), (h_x_pairCounts, .inl (cI, 16, .inl x_pairCounts))] [(0, .ref h_x), (1, .int u1), (2, .int u2)] 4 [] := by
    intro n6
    induction n6 with
    | zero =>
      intro u1 u2 h
      exact nz h
    | succ n6 ih7 =>
      intro u1 u2 h
      rw [f_X5_unlikeLetters_L4] at h
      refine G_iload_n hc dX5_unlikeLetters_4 rfl ?_
      refine G_iconst (v := 4) hc dX5_unlikeLetters_5 (by decide) ?_
      refine G_icmp_ge (tgt := 32) hc dX5_unlikeLetters_6 (by decide) (fun c17 => ?_) (fun c17 => ?_)
      · have h := ip h c17
        have h := Option.some.inj h
        subst h
        refine G_lv (lv' := [(1, .int u1)]) (lsame_cons rfl lsame_nil) ?_
        exact hK8
      · have h := inn h c17
        refine G_aload_n hc dX5_unlikeLetters_9 rfl ?_
        refine G_get hc f_X5_10 0 rfl rfl dX5_unlikeLetters_10 ?_
        refine G_get hc f_X5_57 1 rfl rfl dX5_unlikeLetters_13 ?_
        refine G_iload_n hc dX5_unlikeLetters_16 rfl ?_
        obtain ⟨z9, hu10, h⟩ := ob h
        refine G_callSI (ws2 := [(h_x, .inr (5, [.ref h_x_now, .ref h_past, .int x_pastStates, .ref h_x_text, .ref h_x_trial, .ref h_x_ways, .ref h_x_measured, .ref h_x_pairCounts])), (h_x_now, .inr (1, [.int x_now_row, .int x_now_table, .int x_now_kept, .ref h_x_now_book])), (h_x_now_book, .inl (cI, 8, .inl x_now_book)), (h_x_text, .inr (2, [.ref h_x_text_signs, .int x_text_length, .int x_text_word, .int x_text_kind, .int x_text_number, .int x_text_row, .int x_text_reached, .int x_text_broken])), (h_x_text_signs, .inl (cI, 60, .inl x_text_signs)), (h_x_trial, .inr (3, [.ref h_x_trial_state, .int x_trial_orders, .int x_trial_position, .int x_trial_reason, .int x_trial_cause])), (h_x_trial_state, .inr (1, [.int x_trial_state_row, .int x_trial_state_table, .int x_trial_state_kept, .ref h_x_trial_state_book])), (h_x_trial_state_book, .inl (cI, 8, .inl x_trial_state_book)), (h_x_ways, .inr (4, [.ref h_x_ways_stock, .ref h_x_ways_weight, .ref h_x_ways_known, .ref h_x_ways_found, nv x_ways_measure h_x_measured, .int x_ways_values, .int x_ways_row, .int x_ways_rowCodes, .int x_ways_table, .int x_ways_length, .int x_ways_full, .int x_ways_pairs, .int x_ways_codes])), (h_x_ways_stock, .inl (cI, 16, .inl x_ways_stock)), (h_x_ways_weight, .inl (cI, 16, .inl x_ways_weight)), (h_x_ways_known, .inl (cI, 577, .inl x_ways_known)), (h_x_ways_found, .inl (cI, 6347, .inl x_ways_found)), (h_x_measured, .inr (0, [.int x_measured_which, .int x_measured_x, .int x_measured_y, .int x_measured_row, .int x_measured_table])), (h_x_pairCounts, .inl (cI, 16, .inl x_pairCounts))]) hc m_X5_98 (c_X5_lettersIn l D cI cS X F x_now_row u2 hu10) [] (rmok_of (Nat.le_of_ble_eq_true rfl)) ⟨Nat.zero_le _, Nat.zero_le _⟩ rfl rfl rfl rfl rfl ⟨rfl, rfl, rfl⟩ dX5_unlikeLetters_17 ?_
        obtain ⟨t11, hr13, h⟩ := ob h
        have hj12 : G p l e (rmk 3) s m [.ref h_x].toArray below meth c D A 3 0 0 (QI below [.ref h_x].toArray s D A (PoI res [(h_x, .inr (5, [.ref h_x_now, .ref h_past, .int x_pastStates, .ref h_x_text, .ref h_x_trial, .ref h_x_ways, .ref h_x_measured, .ref h_x_pairCounts])), (h_x_now, .inr (1, [.int x_now_row, .int x_now_table, .int x_now_kept, .ref h_x_now_book])), (h_x_now_book, .inl (cI, 8, .inl x_now_book)), (h_x_text, .inr (2, [.ref h_x_text_signs, .int x_text_length, .int x_text_word, .int x_text_kind, .int x_text_number, .int x_text_row, .int x_text_reached, .int x_text_broken])), (h_x_text_signs, .inl (cI, 60, .inl x_text_signs)), (h_x_trial, .inr (3, [.ref h_x_trial_state, .int x_trial_orders, .int x_trial_position, .int x_trial_reason, .int x_trial_cause])), (h_x_trial_state, .inr (1, [.int x_trial_state_row, .int x_trial_state_table, .int x_trial_state_kept, .ref h_x_trial_state_book])), (h_x_trial_state_book, .inl (cI, 8, .inl x_trial_state_book)), (h_x_ways, .inr (4, [.ref h_x_ways_stock, .ref h_x_ways_weight, .ref h_x_ways_known, .ref h_x_ways_found, nv x_ways_measure h_x_measured, .int x_ways_values, .int x_ways_row, .int x_ways_rowCodes, .int x_ways_table, .int x_ways_length, .int x_ways_full, .int x_ways_pairs, .int x_ways_codes])), (h_x_ways_stock, .inl (cI, 16, .inl x_ways_stock)), (h_x_ways_weight, .inl (cI, 16, .inl x_ways_weight)), (h_x_ways_known, .inl (cI, 577, .inl x_ways_known)), (h_x_ways_found, .inl (cI, 6347, .inl x_ways_found)), (h_x_measured, .inr (0, [.int x_measured_which, .int x_measured_x, .int x_measured_y, .int x_measured_row, .int x_measured_table])), (h_x_pairCounts, .inl (cI, 16, .inl x_pairCounts))])) [(h_x, .inr (5, [.ref h_x_now, .ref h_past, .int x_pastStates, .ref h_x_text, .ref h_x_trial, .ref h_x_ways, .ref h_x_measured, .ref h_x_pairCounts])), (h_x_now, .inr (1, [.int x_now_row, .int x_now_table, .int x_now_kept, .ref h_x_now_book])), (h_x_now_book, .inl (cI, 8, .inl x_now_book)), (h_x_text, .inr (2, [.ref h_x_text_signs, .int x_text_length, .int x_text_word, .int x_text_kind, .int x_text_number, .int x_text_row, .int x_text_reached, .int x_text_broken])), (h_x_text_signs, .inl (cI, 60, .inl x_text_signs)), (h_x_trial, .inr (3, [.ref h_x_trial_state, .int x_trial_orders, .int x_trial_position, .int x_trial_reason, .int x_trial_cause])), (h_x_trial_state, .inr (1, [.int x_trial_state_row, .int x_trial_state_table, .int x_trial_state_kept, .ref h_x_trial_state_book])), (h_x_trial_state_book, .inl (cI, 8, .inl x_trial_state_book)), (h_x_ways, .inr (4, [.ref h_x_ways_stock, .ref h_x_ways_weight, .ref h_x_ways_known, .ref h_x_ways_found, nv x_ways_measure h_x_measured, .int x_ways_values, .int x_ways_row, .int x_ways_rowCodes, .int x_ways_table, .int x_ways_length, .int x_ways_full, .int x_ways_pairs, .int x_ways_codes])), (h_x_ways_stock, .inl (cI, 16, .inl x_ways_stock)), (h_x_ways_weight, .inl (cI, 16, .inl x_ways_weight)), (h_x_ways_known, .inl (cI, 577, .inl x_ways_known)), (h_x_ways_found, .inl (cI, 6347, .inl x_ways_found)), (h_x_measured, .inr (0, [.int x_measured_which, .int x_measured_x, .int x_measured_y, .int x_measured_row, .int x_measured_table])), (h_x_pairCounts, .inl (cI, 16, .inl x_pairCounts))] [(0, .ref h_x), (1, .int t11), (2, .int u2)] 26 [] := by
          obtain ⟨v16, e_v16, h⟩ := sb h
          refine G_iinc (v := v16) (lv' := [(0, .ref h_x), (1, .int t11), (2, .int v16)]) hc dX5_unlikeLetters_26 rfl (e_v16.trans rfl) rfl rfl ?_
          refine G_goto (tgt := 4) hc dX5_unlikeLetters_29 (by decide) ?_
          refine G_lv (lv' := [(0, .ref h_x), (1, .int t11), (2, .int v16)]) (lsame_cons rfl (lsame_cons rfl (lsame_cons rfl lsame_nil))) ?_
          exact ih7 _ _ h
        clear h
        have h := hr13
        clear hr13
        refine G_if_le (tgt := 26) hc dX5_unlikeLetters_20 (by decide) (fun c15 => ?_) (fun c15 => ?_)
        · have h := ip h c15
          have h := Option.some.inj h
          subst h
          refine G_lv (lv' := [(0, .ref h_x), (1, .int u1), (2, .int u2)]) (lsame_cons rfl (lsame_cons rfl (lsame_cons rfl lsame_nil))) ?_
          exact hj12
        · have h := inn h c15
          obtain ⟨v14, e_v14, h⟩ := sb h
          refine G_iinc (v := v14) (lv' := [(0, .ref h_x), (1, .int v14), (2, .int u2)]) hc dX5_unlikeLetters_23 rfl (e_v14.trans rfl) rfl rfl ?_
          have h := Option.some.inj h
          subst h
          refine G_lv (lv' := [(0, .ref h_x), (1, .int v14), (2, .int u2)]) (lsame_cons rfl (lsame_cons rfl (lsame_cons rfl lsame_nil))) ?_
          exact hj12
  refine G_lv (lv' := [(0, .ref h_x), (1, .int (0 : Int32)), (2, .int (0 : Int32))]) (lsame_cons rfl (lsame_cons rfl (lsame_cons rfl lsame_nil))) ?_
  exact hL5 F _ _ hl4
set_option maxHeartbeats 4000000 in
set_option maxRecDepth 100000 in
theorem c_X5_unlikePairs (l : Launch) (D : va_G) (cI cS : ClassId) (X : XP) (F : Nat) (h_x h_x_now h_x_now_book h_x_text h_x_text_signs h_x_trial h_x_trial_state h_x_trial_state_book h_x_ways h_x_ways_stock h_x_ways_weight h_x_ways_known h_x_ways_found h_x_measured h_x_pairCounts h_past : Nat) (x_pastStates : Int32) (x_now_row : Int32) (x_now_table : Int32) (x_now_kept : Int32) (x_now_book : Nat → Int32) (x_text_length : Int32) (x_text_word : Int32) (x_text_kind : Int32) (x_text_number : Int32) (x_text_row : Int32) (x_text_reached : Int32) (x_text_broken : Int32) (x_text_signs : Nat → Int32) (x_trial_orders : Int32) (x_trial_position : Int32) (x_trial_reason : Int32) (x_trial_cause : Int32) (x_trial_state_row : Int32) (x_trial_state_table : Int32) (x_trial_state_kept : Int32) (x_trial_state_book : Nat → Int32) (x_ways_measure : Bool) (x_ways_values : Int32) (x_ways_row : Int32) (x_ways_rowCodes : Int32) (x_ways_table : Int32) (x_ways_length : Int32) (x_ways_full : Int32) (x_ways_pairs : Int32) (x_ways_codes : Int32) (x_ways_stock : Nat → Int32) (x_ways_weight : Nat → Int32) (x_ways_known : Nat → Int32) (x_ways_found : Nat → Int32) (x_measured_which : Int32) (x_measured_x : Int32) (x_measured_y : Int32) (x_measured_row : Int32) (x_measured_table : Int32) (x_pairCounts : Nat → Int32) {res : Int32} (h : f_X5_unlikePairs F x_now_row = some res) : CtI l D cI cS X yX5_unlikePairs cX5_unlikePairs 3 (some .int) 3 [.ref h_x] [(h_x, .inr (5, [.ref h_x_now, .ref h_past, .int x_pastStates, .ref h_x_text, .ref h_x_trial, .ref h_x_ways, .ref h_x_measured, .ref h_x_pairCounts])), (h_x_now, .inr (1, [.int x_now_row, .int x_now_table, .int x_now_kept, .ref h_x_now_book])), (h_x_now_book, .inl (cI, 8, .inl x_now_book)), (h_x_text, .inr (2, [.ref h_x_text_signs, .int x_text_length, .int x_text_word, .int x_text_kind, .int x_text_number, .int x_text_row, .int x_text_reached, .int x_text_broken])), (h_x_text_signs, .inl (cI, 60, .inl x_text_signs)), (h_x_trial, .inr (3, [.ref h_x_trial_state, .int x_trial_orders, .int x_trial_position, .int x_trial_reason, .int x_trial_cause])), (h_x_trial_state, .inr (1, [.int x_trial_state_row, .int x_trial_state_table, .int x_trial_state_kept, .ref h_x_trial_state_book])), (h_x_trial_state_book, .inl (cI, 8, .inl x_trial_state_book)), (h_x_ways, .inr (4, [.ref h_x_ways_stock, .ref h_x_ways_weight, .ref h_x_ways_known, .ref h_x_ways_found, nv x_ways_measure h_x_measured, .int x_ways_values, .int x_ways_row, .int x_ways_rowCodes, .int x_ways_table, .int x_ways_length, .int x_ways_full, .int x_ways_pairs, .int x_ways_codes])), (h_x_ways_stock, .inl (cI, 16, .inl x_ways_stock)), (h_x_ways_weight, .inl (cI, 16, .inl x_ways_weight)), (h_x_ways_known, .inl (cI, 577, .inl x_ways_known)), (h_x_ways_found, .inl (cI, 6347, .inl x_ways_found)), (h_x_measured, .inr (0, [.int x_measured_which, .int x_measured_x, .int x_measured_y, .int x_measured_row, .int x_measured_table])), (h_x_pairCounts, .inl (cI, 16, .inl x_pairCounts))] (PoI res [(h_x, .inr (5, [.ref h_x_now, .ref h_past, .int x_pastStates, .ref h_x_text, .ref h_x_trial, .ref h_x_ways, .ref h_x_measured, .ref h_x_pairCounts])), (h_x_now, .inr (1, [.int x_now_row, .int x_now_table, .int x_now_kept, .ref h_x_now_book])), (h_x_now_book, .inl (cI, 8, .inl x_now_book)), (h_x_text, .inr (2, [.ref h_x_text_signs, .int x_text_length, .int x_text_word, .int x_text_kind, .int x_text_number, .int x_text_row, .int x_text_reached, .int x_text_broken])), (h_x_text_signs, .inl (cI, 60, .inl x_text_signs)), (h_x_trial, .inr (3, [.ref h_x_trial_state, .int x_trial_orders, .int x_trial_position, .int x_trial_reason, .int x_trial_cause])), (h_x_trial_state, .inr (1, [.int x_trial_state_row, .int x_trial_state_table, .int x_trial_state_kept, .ref h_x_trial_state_book])), (h_x_trial_state_book, .inl (cI, 8, .inl x_trial_state_book)), (h_x_ways, .inr (4, [.ref h_x_ways_stock, .ref h_x_ways_weight, .ref h_x_ways_known, .ref h_x_ways_found, nv x_ways_measure h_x_measured, .int x_ways_values, .int x_ways_row, .int x_ways_rowCodes, .int x_ways_table, .int x_ways_length, .int x_ways_full, .int x_ways_pairs, .int x_ways_codes])), (h_x_ways_stock, .inl (cI, 16, .inl x_ways_stock)), (h_x_ways_weight, .inl (cI, 16, .inl x_ways_weight)), (h_x_ways_known, .inl (cI, 577, .inl x_ways_known)), (h_x_ways_found, .inl (cI, 6347, .inl x_ways_found)), (h_x_measured, .inr (0, [.int x_measured_which, .int x_measured_x, .int x_measured_y, .int x_measured_row, .int x_measured_table])), (h_x_pairCounts, .inl (cI, 16, .inl x_pairCounts))]) := by
  refine CtI.of (by decide +kernel) rfl ?_
  intro p e s m below meth c A hc
  refine G_lv (lv' := [(0, .ref h_x)]) (lsame_cons rfl lsame_nil) ?_
  unfold f_X5_unlikePairs at h
  refine G_iconst (v := 0) hc dX5_unlikePairs_0 (by decide) ?_
  refine G_istore_n (lv' := [(0, .ref h_x), (1, .int (0 : Int32))]) hc dX5_unlikePairs_1 rfl rfl ?_
  refine G_iconst (v := 0) hc dX5_unlikePairs_2 (by decide) ?_
  refine G_istore_n (lv' := [(0, .ref h_x), (1, .int (0 : Int32)), (2, .int (0 : Int32))]) hc dX5_unlikePairs_3 rfl rfl ?_
  obtain ⟨e3, hl4, h⟩ := ob h
  have hK8 : G p l e (rmk 3) s m [.ref h_x].toArray below meth c D A 3 0 0 (QI below [.ref h_x].toArray s D A (PoI res [(h_x, .inr (5, [.ref h_x_now, .ref h_past, .int x_pastStates, .ref h_x_text, .ref h_x_trial, .ref h_x_ways, .ref h_x_measured, .ref h_x_pairCounts])), (h_x_now, .inr (1, [.int x_now_row, .int x_now_table, .int x_now_kept, .ref h_x_now_book])), (h_x_now_book, .inl (cI, 8, .inl x_now_book)), (h_x_text, .inr (2, [.ref h_x_text_signs, .int x_text_length, .int x_text_word, .int x_text_kind, .int x_text_number, .int x_text_row, .int x_text_reached, .int x_text_broken])), (h_x_text_signs, .inl (cI, 60, .inl x_text_signs)), (h_x_trial, .inr (3, [.ref h_x_trial_state, .int x_trial_orders, .int x_trial_position, .int x_trial_reason, .int x_trial_cause])), (h_x_trial_state, .inr (1, [.int x_trial_state_row, .int x_trial_state_table, .int x_trial_state_kept, .ref h_x_trial_state_book])), (h_x_trial_state_book, .inl (cI, 8, .inl x_trial_state_book)), (h_x_ways, .inr (4, [.ref h_x_ways_stock, .ref h_x_ways_weight, .ref h_x_ways_known, .ref h_x_ways_found, nv x_ways_measure h_x_measured, .int x_ways_values, .int x_ways_row, .int x_ways_rowCodes, .int x_ways_table, .int x_ways_length, .int x_ways_full, .int x_ways_pairs, .int x_ways_codes])), (h_x_ways_stock, .inl (cI, 16, .inl x_ways_stock)), (h_x_ways_weight, .inl (cI, 16, .inl x_ways_weight)), (h_x_ways_known, .inl (cI, 577, .inl x_ways_known)), (h_x_ways_found, .inl (cI, 6347, .inl x_ways_found)), (h_x_measured, .inr (0, [.int x_measured_which, .int x_measured_x, .int x_measured_y, .int x_measured_row, .int x_measured_table])), (h_x_pairCounts, .inl (cI, 16, .inl x_pairCounts))])) [(h_x, .inr (5, [.ref h_x_now, .ref h_past, .int x_pastStates, .ref h_x_text, .ref h_x_trial, .ref h_x_ways, .ref h_x_measured, .ref h_x_pairCounts])), (h_x_now, .inr (1, [.int x_now_row, .int x_now_table, .int x_now_kept, .ref h_x_now_book])), (h_x_now_book, .inl (cI, 8, .inl x_now_book)), (h_x_text, .inr (2, [.ref h_x_text_signs, .int x_text_length, .int x_text_word, .int x_text_kind, .int x_text_number, .int x_text_row, .int x_text_reached, .int x_text_broken])), (h_x_text_signs, .inl (cI, 60, .inl x_text_signs)), (h_x_trial, .inr (3, [.ref h_x_trial_state, .int x_trial_orders, .int x_trial_position, .int x_trial_reason, .int x_trial_cause])), (h_x_trial_state, .inr (1, [.int x_trial_state_row, .int x_trial_state_table, .int x_trial_state_kept, .ref h_x_trial_state_book])), (h_x_trial_state_book, .inl (cI, 8, .inl x_trial_state_book)), (h_x_ways, .inr (4, [.ref h_x_ways_stock, .ref h_x_ways_weight, .ref h_x_ways_known, .ref h_x_ways_found, nv x_ways_measure h_x_measured, .int x_ways_values, .int x_ways_row, .int x_ways_rowCodes, .int x_ways_table, .int x_ways_length, .int x_ways_full, .int x_ways_pairs, .int x_ways_codes])), (h_x_ways_stock, .inl (cI, 16, .inl x_ways_stock)), (h_x_ways_weight, .inl (cI, 16, .inl x_ways_weight)), (h_x_ways_known, .inl (cI, 577, .inl x_ways_known)), (h_x_ways_found, .inl (cI, 6347, .inl x_ways_found)), (h_x_measured, .inr (0, [.int x_measured_which, .int x_measured_x, .int x_measured_y, .int x_measured_row, .int x_measured_table])), (h_x_pairCounts, .inl (cI, 16, .inl x_pairCounts))] [(1, .int e3)] 38 [] := by
    refine G_iload_n hc dX5_unlikePairs_38 rfl ?_
    have h := Option.some.inj h
    subst h
    exact G_ireturn hc ⟨rfl, rfl⟩ dX5_unlikePairs_39
  clear h
  have hL5 : ∀ (n6 : Nat) (u1 : Int32) (u2 : Int32), f_X5_unlikePairs_L4 F x_now_row n6 u1 u2 = some e3 → G p l e (rmk 3) s m [.ref h_x].toArray below meth c D A 3 0 0 (QI below [.ref h_x].toArray s D A (PoI res [(h_x, .inr (5, [.ref h_x_now, .ref h_past, .int x_pastStates, .ref h_x_text, .ref h_x_trial, .ref h_x_ways, .ref h_x_measured, .ref h_x_pairCounts])), (h_x_now, .inr (1, [.int x_now_row, .int x_now_table, .int x_now_kept, .ref h_x_now_book])), (h_x_now_book, .inl (cI, 8, .inl x_now_book)), (h_x_text, .inr (2, [.ref h_x_text_signs, .int x_text_length, .int x_text_word, .int x_text_kind, .int x_text_number, .int x_text_row, .int x_text_reached, .int x_text_broken])), (h_x_text_signs, .inl (cI, 60, .inl x_text_signs)), (h_x_trial, .inr (3, [.ref h_x_trial_state, .int x_trial_orders, .int x_trial_position, .int x_trial_reason, .int x_trial_cause])), (h_x_trial_state, .inr (1, [.int x_trial_state_row, .int x_trial_state_table, .int x_trial_state_kept, .ref h_x_trial_state_book])), (h_x_trial_state_book, .inl (cI, 8, .inl x_trial_state_book)), (h_x_ways, .inr (4, [.ref h_x_ways_stock, .ref h_x_ways_weight, .ref h_x_ways_known, .ref h_x_ways_found, nv x_ways_measure h_x_measured, .int x_ways_values, .int x_ways_row, .int x_ways_rowCodes, .int x_ways_table, .int x_ways_length, .int x_ways_full, .int x_ways_pairs, .int x_ways_codes])), (h_x_ways_stock, .inl (cI, 16, .inl x_ways_stock)), (h_x_ways_weight, .inl (cI, 16, .inl x_ways_weight)), (h_x_ways_known, .inl (cI, 577, .inl x_ways_known)), (h_x_ways_found, .inl (cI, 6347, .inl x_ways_found)), (h_x_measured, .inr (0, [.int x_measured_which, .int x_measured_x, .int x_measured_y, .int x_measured_row, .int x_measured_table])), (h_x_pairCounts, .inl (cI, 16, .inl x_pairCounts))])) [(h_x, .inr (5, [.ref h_x_now, .ref h_past, .int x_pastStates, .ref h_x_text, .ref h_x_trial, .ref h_x_ways, .ref h_x_measured, .ref h_x_pairCounts])), (h_x_now, .inr (1, [.int x_now_row, .int x_now_table, .int x_now_kept, .ref h_x_now_book])), (h_x_now_book, .inl (cI, 8, .inl x_now_book)), (h_x_text, .inr (2, [.ref h_x_text_signs, .int x_text_length, .int x_text_word, .int x_text_kind, .int x_text_number, .int x_text_row, .int x_text_reached, .int x_text_broken])), (h_x_text_signs, .inl (cI, 60, .inl x_text_signs)), (h_x_trial, .inr (3, [.ref h_x_trial_state, .int x_trial_orders, .int x_trial_position, .int x_trial_reason, .int x_trial_cause])), (h_x_trial_state, .inr (1, [.int x_trial_state_row, .int x_trial_state_table, .int x_trial_state_kept, .ref h_x_trial_state_book])), (h_x_trial_state_book, .inl (cI, 8, .inl x_trial_state_book)), (h_x_ways, .inr (4, [.ref h_x_ways_stock, .ref h_x_ways_weight, .ref h_x_ways_known, .ref h_x_ways_found, nv x_ways_measure h_x_measured, .int x_ways_values, .int x_ways_row, .int x_ways_rowCodes, .int x_ways_table, .int x_ways_length, .int x_ways_full, .int x_ways_pairs, .int x_ways_codes])), (h_x_ways_stock, .inl (cI, 16, .inl x_ways_stock)), (h_x_ways_weight, .inl (cI, 16, .inl x_ways_weight)), (h_x_ways_known, .inl (cI, 577, .inl x_ways_known)), (h_x_ways_found, .inl (cI, 6347, .inl x_ways_found)), (h_x_measured, .inr (0, [.int x_measured_which, .int x_measured_x, .int x_measured_y, .int x_measured_row, .int x_measured_table])), (h_x_pairCounts, .inl (cI, 16, .inl x_pairCounts))] [(0, .ref h_x), (1, .int u1), (2, .int u2)] 4 [] := by
    intro n6
    induction n6 with
    | zero =>
      intro u1 u2 h
      exact nz h
    | succ n6 ih7 =>
      intro u1 u2 h
      rw [f_X5_unlikePairs_L4] at h
      refine G_iload_n hc dX5_unlikePairs_4 rfl ?_
      refine G_bipush (v := 16) hc dX5_unlikePairs_5 (by decide) ?_
      refine G_icmp_ge (tgt := 38) hc dX5_unlikePairs_7 (by decide) (fun c17 => ?_) (fun c17 => ?_)
      · have h := ip h c17
        have h := Option.some.inj h
        subst h
        refine G_lv (lv' := [(1, .int u1)]) (lsame_cons rfl lsame_nil) ?_
        exact hK8
      · have h := inn h c17
        refine G_aload_n hc dX5_unlikePairs_10 rfl ?_
        refine G_get hc f_X5_10 0 rfl rfl dX5_unlikePairs_11 ?_
        refine G_get hc f_X5_57 1 rfl rfl dX5_unlikePairs_14 ?_
        refine G_iload_n hc dX5_unlikePairs_17 rfl ?_
        refine G_iconst (v := 4) hc dX5_unlikePairs_18 (by decide) ?_
        refine G_idiv hc dX5_unlikePairs_19 (by decide) ?_
        refine G_iload_n hc dX5_unlikePairs_20 rfl ?_
        refine G_iconst (v := 4) hc dX5_unlikePairs_21 (by decide) ?_
        refine G_irem hc dX5_unlikePairs_22 (by decide) ?_
        obtain ⟨z9, hu10, h⟩ := ob h
        refine G_callSI (ws2 := [(h_x, .inr (5, [.ref h_x_now, .ref h_past, .int x_pastStates, .ref h_x_text, .ref h_x_trial, .ref h_x_ways, .ref h_x_measured, .ref h_x_pairCounts])), (h_x_now, .inr (1, [.int x_now_row, .int x_now_table, .int x_now_kept, .ref h_x_now_book])), (h_x_now_book, .inl (cI, 8, .inl x_now_book)), (h_x_text, .inr (2, [.ref h_x_text_signs, .int x_text_length, .int x_text_word, .int x_text_kind, .int x_text_number, .int x_text_row, .int x_text_reached, .int x_text_broken])), (h_x_text_signs, .inl (cI, 60, .inl x_text_signs)), (h_x_trial, .inr (3, [.ref h_x_trial_state, .int x_trial_orders, .int x_trial_position, .int x_trial_reason, .int x_trial_cause])), (h_x_trial_state, .inr (1, [.int x_trial_state_row, .int x_trial_state_table, .int x_trial_state_kept, .ref h_x_trial_state_book])), (h_x_trial_state_book, .inl (cI, 8, .inl x_trial_state_book)), (h_x_ways, .inr (4, [.ref h_x_ways_stock, .ref h_x_ways_weight, .ref h_x_ways_known, .ref h_x_ways_found, nv x_ways_measure h_x_measured, .int x_ways_values, .int x_ways_row, .int x_ways_rowCodes, .int x_ways_table, .int x_ways_length, .int x_ways_full, .int x_ways_pairs, .int x_ways_codes])), (h_x_ways_stock, .inl (cI, 16, .inl x_ways_stock)), (h_x_ways_weight, .inl (cI, 16, .inl x_ways_weight)), (h_x_ways_known, .inl (cI, 577, .inl x_ways_known)), (h_x_ways_found, .inl (cI, 6347, .inl x_ways_found)), (h_x_measured, .inr (0, [.int x_measured_which, .int x_measured_x, .int x_measured_y, .int x_measured_row, .int x_measured_table])), (h_x_pairCounts, .inl (cI, 16, .inl x_pairCounts))]) hc m_X5_92 (c_X5_pairsIn l D cI cS X F x_now_row (u2 / (4 : Int32)) (irem u2 (4 : Int32)) hu10) [] (rmok_of (Nat.le_of_ble_eq_true rfl)) ⟨Nat.zero_le _, Nat.zero_le _⟩ rfl rfl rfl rfl rfl ⟨rfl, rfl, rfl⟩ dX5_unlikePairs_23 ?_
        obtain ⟨t11, hr13, h⟩ := ob h
        have hj12 : G p l e (rmk 3) s m [.ref h_x].toArray below meth c D A 3 0 0 (QI below [.ref h_x].toArray s D A (PoI res [(h_x, .inr (5, [.ref h_x_now, .ref h_past, .int x_pastStates, .ref h_x_text, .ref h_x_trial, .ref h_x_ways, .ref h_x_measured, .ref h_x_pairCounts])), (h_x_now, .inr (1, [.int x_now_row, .int x_now_table, .int x_now_kept, .ref h_x_now_book])), (h_x_now_book, .inl (cI, 8, .inl x_now_book)), (h_x_text, .inr (2, [.ref h_x_text_signs, .int x_text_length, .int x_text_word, .int x_text_kind, .int x_text_number, .int x_text_row, .int x_text_reached, .int x_text_broken])), (h_x_text_signs, .inl (cI, 60, .inl x_text_signs)), (h_x_trial, .inr (3, [.ref h_x_trial_state, .int x_trial_orders, .int x_trial_position, .int x_trial_reason, .int x_trial_cause])), (h_x_trial_state, .inr (1, [.int x_trial_state_row, .int x_trial_state_table, .int x_trial_state_kept, .ref h_x_trial_state_book])), (h_x_trial_state_book, .inl (cI, 8, .inl x_trial_state_book)), (h_x_ways, .inr (4, [.ref h_x_ways_stock, .ref h_x_ways_weight, .ref h_x_ways_known, .ref h_x_ways_found, nv x_ways_measure h_x_measured, .int x_ways_values, .int x_ways_row, .int x_ways_rowCodes, .int x_ways_table, .int x_ways_length, .int x_ways_full, .int x_ways_pairs, .int x_ways_codes])), (h_x_ways_stock, .inl (cI, 16, .inl x_ways_stock)), (h_x_ways_weight, .inl (cI, 16, .inl x_ways_weight)), (h_x_ways_known, .inl (cI, 577, .inl x_ways_known)), (h_x_ways_found, .inl (cI, 6347, .inl x_ways_found)), (h_x_measured, .inr (0, [.int x_measured_which, .int x_measured_x, .int x_measured_y, .int x_measured_row, .int x_measured_table])), (h_x_pairCounts, .inl (cI, 16, .inl x_pairCounts))])) [(h_x, .inr (5, [.ref h_x_now, .ref h_past, .int x_pastStates, .ref h_x_text, .ref h_x_trial, .ref h_x_ways, .ref h_x_measured, .ref h_x_pairCounts])), (h_x_now, .inr (1, [.int x_now_row, .int x_now_table, .int x_now_kept, .ref h_x_now_book])), (h_x_now_book, .inl (cI, 8, .inl x_now_book)), (h_x_text, .inr (2, [.ref h_x_text_signs, .int x_text_length, .int x_text_word, .int x_text_kind, .int x_text_number, .int x_text_row, .int x_text_reached, .int x_text_broken])), (h_x_text_signs, .inl (cI, 60, .inl x_text_signs)), (h_x_trial, .inr (3, [.ref h_x_trial_state, .int x_trial_orders, .int x_trial_position, .int x_trial_reason, .int x_trial_cause])), (h_x_trial_state, .inr (1, [.int x_trial_state_row, .int x_trial_state_table, .int x_trial_state_kept, .ref h_x_trial_state_book])), (h_x_trial_state_book, .inl (cI, 8, .inl x_trial_state_book)), (h_x_ways, .inr (4, [.ref h_x_ways_stock, .ref h_x_ways_weight, .ref h_x_ways_known, .ref h_x_ways_found, nv x_ways_measure h_x_measured, .int x_ways_values, .int x_ways_row, .int x_ways_rowCodes, .int x_ways_table, .int x_ways_length, .int x_ways_full, .int x_ways_pairs, .int x_ways_codes])), (h_x_ways_stock, .inl (cI, 16, .inl x_ways_stock)), (h_x_ways_weight, .inl (cI, 16, .inl x_ways_weight)), (h_x_ways_known, .inl (cI, 577, .inl x_ways_known)), (h_x_ways_found, .inl (cI, 6347, .inl x_ways_found)), (h_x_measured, .inr (0, [.int x_measured_which, .int x_measured_x, .int x_measured_y, .int x_measured_row, .int x_measured_table])), (h_x_pairCounts, .inl (cI, 16, .inl x_pairCounts))] [(0, .ref h_x), (1, .int t11), (2, .int u2)] 32 [] := by
          obtain ⟨v16, e_v16, h⟩ := sb h
          refine G_iinc (v := v16) (lv' := [(0, .ref h_x), (1, .int t11), (2, .int v16)]) hc dX5_unlikePairs_32 rfl (e_v16.trans rfl) rfl rfl ?_
          refine G_goto (tgt := 4) hc dX5_unlikePairs_35 (by decide) ?_
          refine G_lv (lv' := [(0, .ref h_x), (1, .int t11), (2, .int v16)]) (lsame_cons rfl (lsame_cons rfl (lsame_cons rfl lsame_nil))) ?_
          exact ih7 _ _ h
        clear h
        have h := hr13
        clear hr13
        refine G_if_le (tgt := 32) hc dX5_unlikePairs_26 (by decide) (fun c15 => ?_) (fun c15 => ?_)
        · have h := ip h c15
          have h := Option.some.inj h
          subst h
          refine G_lv (lv' := [(0, .ref h_x), (1, .int u1), (2, .int u2)]) (lsame_cons rfl (lsame_cons rfl (lsame_cons rfl lsame_nil))) ?_
          exact hj12
        · have h := inn h c15
          obtain ⟨v14, e_v14, h⟩ := sb h
          refine G_iinc (v := v14) (lv' := [(0, .ref h_x), (1, .int v14), (2, .int u2)]) hc dX5_unlikePairs_29 rfl (e_v14.trans rfl) rfl rfl ?_
          have h := Option.some.inj h
          subst h
          refine G_lv (lv' := [(0, .ref h_x), (1, .int v14), (2, .int u2)]) (lsame_cons rfl (lsame_cons rfl (lsame_cons rfl lsame_nil))) ?_
          exact hj12
  refine G_lv (lv' := [(0, .ref h_x), (1, .int (0 : Int32)), (2, .int (0 : Int32))]) (lsame_cons rfl (lsame_cons rfl (lsame_cons rfl lsame_nil))) ?_
  exact hL5 F _ _ hl4
set_option maxHeartbeats 4000000 in
set_option maxRecDepth 100000 in
theorem c_X5_count (l : Launch) (D : va_G) (cI cS : ClassId) (X : XP) (F : Nat) (h_x h_x_now h_x_now_book h_x_text h_x_text_signs h_x_trial h_x_trial_state h_x_trial_state_book h_x_ways h_x_ways_stock h_x_ways_weight h_x_ways_known h_x_ways_found h_x_measured h_x_pairCounts h_past : Nat) (x_pastStates : Int32) (x_now_row : Int32) (x_now_table : Int32) (x_now_kept : Int32) (x_now_book : Nat → Int32) (x_text_length : Int32) (x_text_word : Int32) (x_text_kind : Int32) (x_text_number : Int32) (x_text_row : Int32) (x_text_reached : Int32) (x_text_broken : Int32) (x_text_signs : Nat → Int32) (x_trial_orders : Int32) (x_trial_position : Int32) (x_trial_reason : Int32) (x_trial_cause : Int32) (x_trial_state_row : Int32) (x_trial_state_table : Int32) (x_trial_state_kept : Int32) (x_trial_state_book : Nat → Int32) (x_ways_measure : Bool) (x_ways_values : Int32) (x_ways_row : Int32) (x_ways_rowCodes : Int32) (x_ways_table : Int32) (x_ways_length : Int32) (x_ways_full : Int32) (x_ways_pairs : Int32) (x_ways_codes : Int32) (x_ways_stock : Nat → Int32) (x_ways_weight : Nat → Int32) (x_ways_known : Nat → Int32) (x_ways_found : Nat → Int32) (x_measured_which : Int32) (x_measured_x : Int32) (x_measured_y : Int32) (x_measured_row : Int32) (x_measured_table : Int32) (x_pairCounts : Nat → Int32) (a1 : Int32) {res : Int32 × Int32 × Int32 × Int32 × Int32 × Int32} (h : f_X5_count F x_pastStates x_now_row x_now_table x_now_kept x_text_length x_measured_which x_measured_x x_measured_y x_measured_row x_measured_table a1 = some res) : CtI l D cI cS X yX5_count cX5_count 2 (some .int) 4 [.ref h_x, .int a1] [(h_x, .inr (5, [.ref h_x_now, .ref h_past, .int x_pastStates, .ref h_x_text, .ref h_x_trial, .ref h_x_ways, .ref h_x_measured, .ref h_x_pairCounts])), (h_x_now, .inr (1, [.int x_now_row, .int x_now_table, .int x_now_kept, .ref h_x_now_book])), (h_x_now_book, .inl (cI, 8, .inl x_now_book)), (h_x_text, .inr (2, [.ref h_x_text_signs, .int x_text_length, .int x_text_word, .int x_text_kind, .int x_text_number, .int x_text_row, .int x_text_reached, .int x_text_broken])), (h_x_text_signs, .inl (cI, 60, .inl x_text_signs)), (h_x_trial, .inr (3, [.ref h_x_trial_state, .int x_trial_orders, .int x_trial_position, .int x_trial_reason, .int x_trial_cause])), (h_x_trial_state, .inr (1, [.int x_trial_state_row, .int x_trial_state_table, .int x_trial_state_kept, .ref h_x_trial_state_book])), (h_x_trial_state_book, .inl (cI, 8, .inl x_trial_state_book)), (h_x_ways, .inr (4, [.ref h_x_ways_stock, .ref h_x_ways_weight, .ref h_x_ways_known, .ref h_x_ways_found, nv x_ways_measure h_x_measured, .int x_ways_values, .int x_ways_row, .int x_ways_rowCodes, .int x_ways_table, .int x_ways_length, .int x_ways_full, .int x_ways_pairs, .int x_ways_codes])), (h_x_ways_stock, .inl (cI, 16, .inl x_ways_stock)), (h_x_ways_weight, .inl (cI, 16, .inl x_ways_weight)), (h_x_ways_known, .inl (cI, 577, .inl x_ways_known)), (h_x_ways_found, .inl (cI, 6347, .inl x_ways_found)), (h_x_measured, .inr (0, [.int x_measured_which, .int x_measured_x, .int x_measured_y, .int x_measured_row, .int x_measured_table])), (h_x_pairCounts, .inl (cI, 16, .inl x_pairCounts))] (PoI res.1 [(h_x, .inr (5, [.ref h_x_now, .ref h_past, .int x_pastStates, .ref h_x_text, .ref h_x_trial, .ref h_x_ways, .ref h_x_measured, .ref h_x_pairCounts])), (h_x_now, .inr (1, [.int x_now_row, .int x_now_table, .int x_now_kept, .ref h_x_now_book])), (h_x_now_book, .inl (cI, 8, .inl x_now_book)), (h_x_text, .inr (2, [.ref h_x_text_signs, .int x_text_length, .int x_text_word, .int x_text_kind, .int x_text_number, .int x_text_row, .int x_text_reached, .int x_text_broken])), (h_x_text_signs, .inl (cI, 60, .inl x_text_signs)), (h_x_trial, .inr (3, [.ref h_x_trial_state, .int x_trial_orders, .int x_trial_position, .int x_trial_reason, .int x_trial_cause])), (h_x_trial_state, .inr (1, [.int x_trial_state_row, .int x_trial_state_table, .int x_trial_state_kept, .ref h_x_trial_state_book])), (h_x_trial_state_book, .inl (cI, 8, .inl x_trial_state_book)), (h_x_ways, .inr (4, [.ref h_x_ways_stock, .ref h_x_ways_weight, .ref h_x_ways_known, .ref h_x_ways_found, nv x_ways_measure h_x_measured, .int x_ways_values, .int x_ways_row, .int x_ways_rowCodes, .int x_ways_table, .int x_ways_length, .int x_ways_full, .int x_ways_pairs, .int x_ways_codes])), (h_x_ways_stock, .inl (cI, 16, .inl x_ways_stock)), (h_x_ways_weight, .inl (cI, 16, .inl x_ways_weight)), (h_x_ways_known, .inl (cI, 577, .inl x_ways_known)), (h_x_ways_found, .inl (cI, 6347, .inl x_ways_found)), (h_x_measured, .inr (0, [.int res.2.1, .int res.2.2.1, .int res.2.2.2.1, .int res.2.2.2.2.1, .int res.2.2.2.2.2])), (h_x_pairCounts, .inl (cI, 16, .inl x_pairCounts))]) := by
  refine CtI.of (by decide +kernel) rfl ?_
  intro p e s m below meth c A hc
  refine G_lv (lv' := [(0, .ref h_x), (1, .int a1)]) (lsame_cons rfl (lsame_cons rfl lsame_nil)) ?_
  unfold f_X5_count at h
  refine G_iload_n hc dX5_count_0 rfl ?_
  by_cases c1 : a1 = (0 : Int32)
  · have h := ip h c1
    refine G_tableIn (tgt := 48) hc dX5_count_1 (0 : Int32) c1 (by decide) (by decide) rfl (by decide) ?_
    refine G_aload_n hc dX5_count_48 rfl ?_
    refine G_get hc f_X5_10 0 rfl rfl dX5_count_49 ?_
    refine G_get hc f_X5_57 1 rfl rfl dX5_count_52 ?_
    obtain ⟨z2, hu3, h⟩ := ob h
    refine G_callSI (ws2 := [(h_x, .inr (5, [.ref h_x_now, .ref h_past, .int x_pastStates, .ref h_x_text, .ref h_x_trial, .ref h_x_ways, .ref h_x_measured, .ref h_x_pairCounts])), (h_x_now, .inr (1, [.int x_now_row, .int x_now_table, .int x_now_kept, .ref h_x_now_book])), (h_x_now_book, .inl (cI, 8, .inl x_now_book)), (h_x_text, .inr (2, [.ref h_x_text_signs, .int x_text_length, .int x_text_word, .int x_text_kind, .int x_text_number, .int x_text_row, .int x_text_reached, .int x_text_broken])), (h_x_text_signs, .inl (cI, 60, .inl x_text_signs)), (h_x_trial, .inr (3, [.ref h_x_trial_state, .int x_trial_orders, .int x_trial_position, .int x_trial_reason, .int x_trial_cause])), (h_x_trial_state, .inr (1, [.int x_trial_state_row, .int x_trial_state_table, .int x_trial_state_kept, .ref h_x_trial_state_book])), (h_x_trial_state_book, .inl (cI, 8, .inl x_trial_state_book)), (h_x_ways, .inr (4, [.ref h_x_ways_stock, .ref h_x_ways_weight, .ref h_x_ways_known, .ref h_x_ways_found, nv x_ways_measure h_x_measured, .int x_ways_values, .int x_ways_row, .int x_ways_rowCodes, .int x_ways_table, .int x_ways_length, .int x_ways_full, .int x_ways_pairs, .int x_ways_codes])), (h_x_ways_stock, .inl (cI, 16, .inl x_ways_stock)), (h_x_ways_weight, .inl (cI, 16, .inl x_ways_weight)), (h_x_ways_known, .inl (cI, 577, .inl x_ways_known)), (h_x_ways_found, .inl (cI, 6347, .inl x_ways_found)), (h_x_measured, .inr (0, [.int x_measured_which, .int x_measured_x, .int x_measured_y, .int x_measured_row, .int x_measured_table])), (h_x_pairCounts, .inl (cI, 16, .inl x_pairCounts))]) hc m_X5_61 (c_X5_lengthOf l D cI cS X F x_now_row hu3) [] (rmok_of (Nat.le_of_ble_eq_true rfl)) ⟨Nat.zero_le _, Nat.zero_le _⟩ rfl rfl rfl rfl rfl ⟨rfl, rfl, rfl⟩ dX5_count_55 ?_
    have h := Option.some.inj h
    subst h
    exact G_ireturn hc ⟨rfl, rfl⟩ dX5_count_58
  · have h := inn h c1
    by_cases c4 : a1 = (1 : Int32)
    · have h := ip h c4
      refine G_tableIn (tgt := 59) hc dX5_count_1 (1 : Int32) c4 (by decide) (by decide) rfl (by decide) ?_
      refine G_aload_n hc dX5_count_59 rfl ?_
      obtain ⟨z5, hu6, h⟩ := ob h
      refine G_callVI (ws2 := [(h_x, .inr (5, [.ref h_x_now, .ref h_past, .int x_pastStates, .ref h_x_text, .ref h_x_trial, .ref h_x_ways, .ref h_x_measured, .ref h_x_pairCounts])), (h_x_now, .inr (1, [.int x_now_row, .int x_now_table, .int x_now_kept, .ref h_x_now_book])), (h_x_now_book, .inl (cI, 8, .inl x_now_book)), (h_x_text, .inr (2, [.ref h_x_text_signs, .int x_text_length, .int x_text_word, .int x_text_kind, .int x_text_number, .int x_text_row, .int x_text_reached, .int x_text_broken])), (h_x_text_signs, .inl (cI, 60, .inl x_text_signs)), (h_x_trial, .inr (3, [.ref h_x_trial_state, .int x_trial_orders, .int x_trial_position, .int x_trial_reason, .int x_trial_cause])), (h_x_trial_state, .inr (1, [.int x_trial_state_row, .int x_trial_state_table, .int x_trial_state_kept, .ref h_x_trial_state_book])), (h_x_trial_state_book, .inl (cI, 8, .inl x_trial_state_book)), (h_x_ways, .inr (4, [.ref h_x_ways_stock, .ref h_x_ways_weight, .ref h_x_ways_known, .ref h_x_ways_found, nv x_ways_measure h_x_measured, .int x_ways_values, .int x_ways_row, .int x_ways_rowCodes, .int x_ways_table, .int x_ways_length, .int x_ways_full, .int x_ways_pairs, .int x_ways_codes])), (h_x_ways_stock, .inl (cI, 16, .inl x_ways_stock)), (h_x_ways_weight, .inl (cI, 16, .inl x_ways_weight)), (h_x_ways_known, .inl (cI, 577, .inl x_ways_known)), (h_x_ways_found, .inl (cI, 6347, .inl x_ways_found)), (h_x_measured, .inr (0, [.int x_measured_which, .int x_measured_x, .int x_measured_y, .int x_measured_row, .int x_measured_table])), (h_x_pairCounts, .inl (cI, 16, .inl x_pairCounts))]) hc m_X5_169 (c_X5_unlikeLetters l D cI cS X F h_x h_x_now h_x_now_book h_x_text h_x_text_signs h_x_trial h_x_trial_state h_x_trial_state_book h_x_ways h_x_ways_stock h_x_ways_weight h_x_ways_known h_x_ways_found h_x_measured h_x_pairCounts h_past x_pastStates x_now_row x_now_table x_now_kept x_now_book x_text_length x_text_word x_text_kind x_text_number x_text_row x_text_reached x_text_broken x_text_signs x_trial_orders x_trial_position x_trial_reason x_trial_cause x_trial_state_row x_trial_state_table x_trial_state_kept x_trial_state_book x_ways_measure x_ways_values x_ways_row x_ways_rowCodes x_ways_table x_ways_length x_ways_full x_ways_pairs x_ways_codes x_ways_stock x_ways_weight x_ways_known x_ways_found x_measured_which x_measured_x x_measured_y x_measured_row x_measured_table x_pairCounts hu6) 0 [0, 1, 2, 3, 4, 5, 6, 7, 8, 9, 10, 11, 12, 13, 14] rfl rfl (rmok_of (Nat.le_of_ble_eq_true rfl)) ⟨Nat.zero_le _, Nat.zero_le _⟩ rfl rfl rfl rfl rfl ⟨rfl, rfl, rfl⟩ dX5_count_60 ?_
      have h := Option.some.inj h
      subst h
      exact G_ireturn hc ⟨rfl, rfl⟩ dX5_count_63
    · have h := inn h c4
      by_cases c7 : a1 = (2 : Int32)
      · have h := ip h c7
        refine G_tableIn (tgt := 64) hc dX5_count_1 (2 : Int32) c7 (by decide) (by decide) rfl (by decide) ?_
        refine G_aload_n hc dX5_count_64 rfl ?_
        obtain ⟨z8, hu9, h⟩ := ob h
        refine G_callVI (ws2 := [(h_x, .inr (5, [.ref h_x_now, .ref h_past, .int x_pastStates, .ref h_x_text, .ref h_x_trial, .ref h_x_ways, .ref h_x_measured, .ref h_x_pairCounts])), (h_x_now, .inr (1, [.int x_now_row, .int x_now_table, .int x_now_kept, .ref h_x_now_book])), (h_x_now_book, .inl (cI, 8, .inl x_now_book)), (h_x_text, .inr (2, [.ref h_x_text_signs, .int x_text_length, .int x_text_word, .int x_text_kind, .int x_text_number, .int x_text_row, .int x_text_reached, .int x_text_broken])), (h_x_text_signs, .inl (cI, 60, .inl x_text_signs)), (h_x_trial, .inr (3, [.ref h_x_trial_state, .int x_trial_orders, .int x_trial_position, .int x_trial_reason, .int x_trial_cause])), (h_x_trial_state, .inr (1, [.int x_trial_state_row, .int x_trial_state_table, .int x_trial_state_kept, .ref h_x_trial_state_book])), (h_x_trial_state_book, .inl (cI, 8, .inl x_trial_state_book)), (h_x_ways, .inr (4, [.ref h_x_ways_stock, .ref h_x_ways_weight, .ref h_x_ways_known, .ref h_x_ways_found, nv x_ways_measure h_x_measured, .int x_ways_values, .int x_ways_row, .int x_ways_rowCodes, .int x_ways_table, .int x_ways_length, .int x_ways_full, .int x_ways_pairs, .int x_ways_codes])), (h_x_ways_stock, .inl (cI, 16, .inl x_ways_stock)), (h_x_ways_weight, .inl (cI, 16, .inl x_ways_weight)), (h_x_ways_known, .inl (cI, 577, .inl x_ways_known)), (h_x_ways_found, .inl (cI, 6347, .inl x_ways_found)), (h_x_measured, .inr (0, [.int x_measured_which, .int x_measured_x, .int x_measured_y, .int x_measured_row, .int x_measured_table])), (h_x_pairCounts, .inl (cI, 16, .inl x_pairCounts))]) hc m_X5_172 (c_X5_unlikePairs l D cI cS X F h_x h_x_now h_x_now_book h_x_text h_x_text_signs h_x_trial h_x_trial_state h_x_trial_state_book h_x_ways h_x_ways_stock h_x_ways_weight h_x_ways_known h_x_ways_found h_x_measured h_x_pairCounts h_past x_pastStates x_now_row x_now_table x_now_kept x_now_book x_text_length x_text_word x_text_kind x_text_number x_text_row x_text_reached x_text_broken x_text_signs x_trial_orders x_trial_position x_trial_reason x_trial_cause x_trial_state_row x_trial_state_table x_trial_state_kept x_trial_state_book x_ways_measure x_ways_values x_ways_row x_ways_rowCodes x_ways_table x_ways_length x_ways_full x_ways_pairs x_ways_codes x_ways_stock x_ways_weight x_ways_known x_ways_found x_measured_which x_measured_x x_measured_y x_measured_row x_measured_table x_pairCounts hu9) 0 [0, 1, 2, 3, 4, 5, 6, 7, 8, 9, 10, 11, 12, 13, 14] rfl rfl (rmok_of (Nat.le_of_ble_eq_true rfl)) ⟨Nat.zero_le _, Nat.zero_le _⟩ rfl rfl rfl rfl rfl ⟨rfl, rfl, rfl⟩ dX5_count_65 ?_
        have h := Option.some.inj h
        subst h
        exact G_ireturn hc ⟨rfl, rfl⟩ dX5_count_68
      · have h := inn h c7
        by_cases c10 : a1 = (3 : Int32)
        · have h := ip h c10
          refine G_tableIn (tgt := 69) hc dX5_count_1 (3 : Int32) c10 (by decide) (by decide) rfl (by decide) ?_
          refine G_aload_n hc dX5_count_69 rfl ?_
          refine G_get hc f_X5_44 0 rfl rfl dX5_count_70 ?_
          refine G_iconst (v := 1) hc dX5_count_73 (by decide) ?_
          refine G_iconst (v := 0) hc dX5_count_74 (by decide) ?_
          refine G_iconst (v := 0) hc dX5_count_75 (by decide) ?_
          refine G_aload_n hc dX5_count_76 rfl ?_
          refine G_get hc f_X5_10 0 rfl rfl dX5_count_77 ?_
          obtain ⟨z11, hu12, h⟩ := ob h
          refine G_callVV (ws2 := [(h_x, .inr (5, [.ref h_x_now, .ref h_past, .int x_pastStates, .ref h_x_text, .ref h_x_trial, .ref h_x_ways, .ref h_x_measured, .ref h_x_pairCounts])), (h_x_now, .inr (1, [.int x_now_row, .int x_now_table, .int x_now_kept, .ref h_x_now_book])), (h_x_now_book, .inl (cI, 8, .inl x_now_book)), (h_x_text, .inr (2, [.ref h_x_text_signs, .int x_text_length, .int x_text_word, .int x_text_kind, .int x_text_number, .int x_text_row, .int x_text_reached, .int x_text_broken])), (h_x_text_signs, .inl (cI, 60, .inl x_text_signs)), (h_x_trial, .inr (3, [.ref h_x_trial_state, .int x_trial_orders, .int x_trial_position, .int x_trial_reason, .int x_trial_cause])), (h_x_trial_state, .inr (1, [.int x_trial_state_row, .int x_trial_state_table, .int x_trial_state_kept, .ref h_x_trial_state_book])), (h_x_trial_state_book, .inl (cI, 8, .inl x_trial_state_book)), (h_x_ways, .inr (4, [.ref h_x_ways_stock, .ref h_x_ways_weight, .ref h_x_ways_known, .ref h_x_ways_found, nv x_ways_measure h_x_measured, .int x_ways_values, .int x_ways_row, .int x_ways_rowCodes, .int x_ways_table, .int x_ways_length, .int x_ways_full, .int x_ways_pairs, .int x_ways_codes])), (h_x_ways_stock, .inl (cI, 16, .inl x_ways_stock)), (h_x_ways_weight, .inl (cI, 16, .inl x_ways_weight)), (h_x_ways_known, .inl (cI, 577, .inl x_ways_known)), (h_x_ways_found, .inl (cI, 6347, .inl x_ways_found)), (h_x_measured, .inr (0, [.int z11.1, .int z11.2.1, .int z11.2.2.1, .int z11.2.2.2.1, .int z11.2.2.2.2])), (h_x_pairCounts, .inl (cI, 16, .inl x_pairCounts))]) hc m_X5_124 (c_X0_set l D cI cS X F h_x_measured h_x_now h_x_now_book x_measured_which x_measured_x x_measured_y x_measured_row x_measured_table x_now_row x_now_table x_now_kept x_now_book (1 : Int32) (0 : Int32) (0 : Int32) hu12) 13 [13, 1, 2] rfl rfl (rmok_of (Nat.le_of_ble_eq_true rfl)) ⟨Nat.zero_le _, Nat.zero_le _⟩ rfl rfl rfl rfl rfl ⟨rfl, rfl, rfl⟩ dX5_count_80 ?_
          refine G_aload_n hc dX5_count_83 rfl ?_
          refine G_get hc f_X5_44 0 rfl rfl dX5_count_84 ?_
          obtain ⟨z13, hu14, h⟩ := ob h
          refine G_callVI (ws2 := [(h_x, .inr (5, [.ref h_x_now, .ref h_past, .int x_pastStates, .ref h_x_text, .ref h_x_trial, .ref h_x_ways, .ref h_x_measured, .ref h_x_pairCounts])), (h_x_now, .inr (1, [.int x_now_row, .int x_now_table, .int x_now_kept, .ref h_x_now_book])), (h_x_now_book, .inl (cI, 8, .inl x_now_book)), (h_x_text, .inr (2, [.ref h_x_text_signs, .int x_text_length, .int x_text_word, .int x_text_kind, .int x_text_number, .int x_text_row, .int x_text_reached, .int x_text_broken])), (h_x_text_signs, .inl (cI, 60, .inl x_text_signs)), (h_x_trial, .inr (3, [.ref h_x_trial_state, .int x_trial_orders, .int x_trial_position, .int x_trial_reason, .int x_trial_cause])), (h_x_trial_state, .inr (1, [.int x_trial_state_row, .int x_trial_state_table, .int x_trial_state_kept, .ref h_x_trial_state_book])), (h_x_trial_state_book, .inl (cI, 8, .inl x_trial_state_book)), (h_x_ways, .inr (4, [.ref h_x_ways_stock, .ref h_x_ways_weight, .ref h_x_ways_known, .ref h_x_ways_found, nv x_ways_measure h_x_measured, .int x_ways_values, .int x_ways_row, .int x_ways_rowCodes, .int x_ways_table, .int x_ways_length, .int x_ways_full, .int x_ways_pairs, .int x_ways_codes])), (h_x_ways_stock, .inl (cI, 16, .inl x_ways_stock)), (h_x_ways_weight, .inl (cI, 16, .inl x_ways_weight)), (h_x_ways_known, .inl (cI, 577, .inl x_ways_known)), (h_x_ways_found, .inl (cI, 6347, .inl x_ways_found)), (h_x_measured, .inr (0, [.int z11.1, .int z11.2.1, .int z11.2.2.1, .int z11.2.2.2.1, .int z11.2.2.2.2])), (h_x_pairCounts, .inl (cI, 16, .inl x_pairCounts))]) hc m_X5_128 (c_X0_ofRow l D cI cS X F h_x_measured z11.1 z11.2.1 z11.2.2.1 z11.2.2.2.1 z11.2.2.2.2 hu14) 13 [13] rfl rfl (rmok_of (Nat.le_of_ble_eq_true rfl)) ⟨Nat.zero_le _, Nat.zero_le _⟩ rfl rfl rfl rfl rfl ⟨rfl, rfl, rfl⟩ dX5_count_87 ?_
          have h := Option.some.inj h
          subst h
          exact G_ireturn hc ⟨rfl, rfl⟩ dX5_count_90
        · have h := inn h c10
          by_cases c15 : a1 = (4 : Int32)
          · have h := ip h c15
            refine G_tableIn (tgt := 91) hc dX5_count_1 (4 : Int32) c15 (by decide) (by decide) rfl (by decide) ?_
            refine G_aload_n hc dX5_count_91 rfl ?_
            refine G_get hc f_X5_10 0 rfl rfl dX5_count_92 ?_
            refine G_get hc f_X5_57 1 rfl rfl dX5_count_95 ?_
            obtain ⟨z16, hu17, h⟩ := ob h
            refine G_callSI (ws2 := [(h_x, .inr (5, [.ref h_x_now, .ref h_past, .int x_pastStates, .ref h_x_text, .ref h_x_trial, .ref h_x_ways, .ref h_x_measured, .ref h_x_pairCounts])), (h_x_now, .inr (1, [.int x_now_row, .int x_now_table, .int x_now_kept, .ref h_x_now_book])), (h_x_now_book, .inl (cI, 8, .inl x_now_book)), (h_x_text, .inr (2, [.ref h_x_text_signs, .int x_text_length, .int x_text_word, .int x_text_kind, .int x_text_number, .int x_text_row, .int x_text_reached, .int x_text_broken])), (h_x_text_signs, .inl (cI, 60, .inl x_text_signs)), (h_x_trial, .inr (3, [.ref h_x_trial_state, .int x_trial_orders, .int x_trial_position, .int x_trial_reason, .int x_trial_cause])), (h_x_trial_state, .inr (1, [.int x_trial_state_row, .int x_trial_state_table, .int x_trial_state_kept, .ref h_x_trial_state_book])), (h_x_trial_state_book, .inl (cI, 8, .inl x_trial_state_book)), (h_x_ways, .inr (4, [.ref h_x_ways_stock, .ref h_x_ways_weight, .ref h_x_ways_known, .ref h_x_ways_found, nv x_ways_measure h_x_measured, .int x_ways_values, .int x_ways_row, .int x_ways_rowCodes, .int x_ways_table, .int x_ways_length, .int x_ways_full, .int x_ways_pairs, .int x_ways_codes])), (h_x_ways_stock, .inl (cI, 16, .inl x_ways_stock)), (h_x_ways_weight, .inl (cI, 16, .inl x_ways_weight)), (h_x_ways_known, .inl (cI, 577, .inl x_ways_known)), (h_x_ways_found, .inl (cI, 6347, .inl x_ways_found)), (h_x_measured, .inr (0, [.int x_measured_which, .int x_measured_x, .int x_measured_y, .int x_measured_row, .int x_measured_table])), (h_x_pairCounts, .inl (cI, 16, .inl x_pairCounts))]) hc m_X5_61 (c_X5_lengthOf l D cI cS X F x_now_row hu17) [] (rmok_of (Nat.le_of_ble_eq_true rfl)) ⟨Nat.zero_le _, Nat.zero_le _⟩ rfl rfl rfl rfl rfl ⟨rfl, rfl, rfl⟩ dX5_count_98 ?_
            refine G_iconst (v := 2) hc dX5_count_101 (by decide) ?_
            refine G_idiv hc dX5_count_102 (by decide) ?_
            have h := Option.some.inj h
            subst h
            exact G_ireturn hc ⟨rfl, rfl⟩ dX5_count_103
          · have h := inn h c15
            by_cases c18 : a1 = (5 : Int32)
            · have h := ip h c18
              refine G_tableIn (tgt := 104) hc dX5_count_1 (5 : Int32) c18 (by decide) (by decide) rfl (by decide) ?_
              refine G_aload_n hc dX5_count_104 rfl ?_
              refine G_get hc f_X5_10 0 rfl rfl dX5_count_105 ?_
              refine G_get hc f_X5_154 1 rfl rfl dX5_count_108 ?_
              have h := Option.some.inj h
              subst h
              exact G_ireturn hc ⟨rfl, rfl⟩ dX5_count_111
            · have h := inn h c18
              by_cases c19 : a1 = (6 : Int32)
              · have h := ip h c19
                refine G_tableIn (tgt := 112) hc dX5_count_1 (6 : Int32) c19 (by decide) (by decide) rfl (by decide) ?_
                refine G_aload_n hc dX5_count_112 rfl ?_
                refine G_get hc f_X5_175 0 rfl rfl dX5_count_113 ?_
                have h := Option.some.inj h
                subst h
                exact G_ireturn hc ⟨rfl, rfl⟩ dX5_count_116
              · have h := inn h c19
                by_cases c20 : a1 = (7 : Int32)
                · have h := ip h c20
                  refine G_tableIn (tgt := 117) hc dX5_count_1 (7 : Int32) c20 (by decide) (by decide) rfl (by decide) ?_
                  refine G_aload_n hc dX5_count_117 rfl ?_
                  refine G_get hc f_X5_23 0 rfl rfl dX5_count_118 ?_
                  refine G_get hc f_X5_178 3 rfl rfl dX5_count_121 ?_
                  have h := Option.some.inj h
                  subst h
                  exact G_ireturn hc ⟨rfl, rfl⟩ dX5_count_124
                · have h := inn h c20
                  refine G_tableOut (tgt := 125) hc dX5_count_1 (sw_out_0_7 c1 c4 c7 c10 c15 c18 c19 c20) (by decide) ?_
                  refine G_ldc (v := -1000001) hc k_X5_56 dX5_count_125 ?_
                  have h := Option.some.inj h
                  subst h
                  exact G_ireturn hc ⟨rfl, rfl⟩ dX5_count_127
set_option maxHeartbeats 4000000 in
set_option maxRecDepth 100000 in
theorem c_X2_put (l : Launch) (D : va_G) (cI cS : ClassId) (X : XP) (F : Nat) (h_t h_t_signs : Nat) (t_length : Int32) (t_word : Int32) (t_kind : Int32) (t_number : Int32) (t_row : Int32) (t_reached : Int32) (t_broken : Int32) (t_signs : Nat → Int32) (a1 : Int32) {res : Int32 × (Nat → Int32)} (h : f_X2_put F t_length t_signs a1 = some res) : CtV l D cI cS X yX2_put cX2_put 2 1 [.ref h_t, .int a1] [(h_t, .inr (2, [.ref h_t_signs, .int t_length, .int t_word, .int t_kind, .int t_number, .int t_row, .int t_reached, .int t_broken])), (h_t_signs, .inl (cI, 60, .inl t_signs))] (PoV [(h_t, .inr (2, [.ref h_t_signs, .int res.1, .int t_word, .int t_kind, .int t_number, .int t_row, .int t_reached, .int t_broken])), (h_t_signs, .inl (cI, 60, .inl res.2))]) := by
  refine CtV.of (by decide +kernel) rfl ?_
  intro p e s m below meth c A hc
  refine G_lv (lv' := [(0, .ref h_t), (1, .int a1)]) (lsame_cons rfl (lsame_cons rfl lsame_nil)) ?_
  unfold f_X2_put at h
  refine G_aload_n hc dX2_put_0 rfl ?_
  refine G_get hc f_X2_15 0 rfl rfl dX2_put_1 ?_
  obtain ⟨t1, hr3, h⟩ := ob h
  have hj2 : G p l e (rmk 1) s m [.ref h_t, .int a1].toArray below meth c D A 2 0 0 (QV below [.ref h_t, .int a1].toArray s D A (PoV [(h_t, .inr (2, [.ref h_t_signs, .int res.1, .int t_word, .int t_kind, .int t_number, .int t_row, .int t_reached, .int t_broken])), (h_t_signs, .inl (cI, 60, .inl res.2))])) [(h_t, .inr (2, [.ref h_t_signs, .int t1.1, .int t_word, .int t_kind, .int t_number, .int t_row, .int t_reached, .int t_broken])), (h_t_signs, .inl (cI, 60, .inl t1.2))] [] 39 [] := by
    have h := Option.some.inj h
    subst h
    exact G_return hc rfl dX2_put_39
  clear h
  have h := hr3
  clear hr3
  refine G_if_lt (tgt := 39) hc dX2_put_4 (by decide) (fun c7 => ?_) (fun c7 => ?_)
  · have h := ip h c7
    have h := Option.some.inj h
    subst h
    refine G_lv (lv' := []) lsame_nil ?_
    exact hj2
  · have h := inn h c7
    refine G_aload_n hc dX2_put_7 rfl ?_
    refine G_get hc f_X2_15 0 rfl rfl dX2_put_8 ?_
    refine G_aload_n hc dX2_put_11 rfl ?_
    refine G_get hc f_X2_9 0 rfl rfl dX2_put_12 ?_
    refine G_alen (v := 60) hc 1 rfl (by decide) dX2_put_15 ?_
    refine G_icmp_ge (tgt := 39) hc dX2_put_16 (by decide) (fun c6 => ?_) (fun c6 => ?_)
    · have h := ip h c6
      have h := Option.some.inj h
      subst h
      refine G_lv (lv' := []) lsame_nil ?_
      exact hj2
    · have h := inn h c6
      refine G_aload_n hc dX2_put_19 rfl ?_
      refine G_get hc f_X2_9 0 rfl rfl dX2_put_20 ?_
      refine G_aload_n hc dX2_put_23 rfl ?_
      refine G_get hc f_X2_15 0 rfl rfl dX2_put_24 ?_
      refine G_iload_n hc dX2_put_27 rfl ?_
      obtain ⟨v4, i_v4, e_v4, h⟩ := wb h
      refine G_iast (ws' := [(h_t, .inr (2, [.ref h_t_signs, .int t_length, .int t_word, .int t_kind, .int t_number, .int t_row, .int t_reached, .int t_broken])), (h_t_signs, .inl (cI, 60, .inl v4))]) hc 1 rfl i_v4 e_v4 rfl dX2_put_28 ?_
      refine G_aload_n hc dX2_put_29 rfl ?_
      refine G_dup hc dX2_put_30 rfl ?_
      refine G_get hc f_X2_15 0 rfl rfl dX2_put_31 ?_
      refine G_iconst (v := 1) hc dX2_put_34 (by decide) ?_
      refine G_iadd hc dX2_put_35 ?_
      obtain ⟨v5, e_v5, h⟩ := sb h
      refine G_top e_v5 ?_
      refine G_puti (ws' := [(h_t, .inr (2, [.ref h_t_signs, .int v5, .int t_word, .int t_kind, .int t_number, .int t_row, .int t_reached, .int t_broken])), (h_t_signs, .inl (cI, 60, .inl v4))]) hc f_X2_15 p_X2_1 0 rfl rfl rfl dX2_put_36 ?_
      have h := Option.some.inj h
      subst h
      refine G_lv (lv' := []) lsame_nil ?_
      exact hj2
set_option maxHeartbeats 4000000 in
set_option maxRecDepth 100000 in
theorem c_X5_type (l : Launch) (D : va_G) (cI cS : ClassId) (X : XP) (F : Nat) (h_x h_x_now h_x_now_book h_x_text h_x_text_signs h_x_trial h_x_trial_state h_x_trial_state_book h_x_ways h_x_ways_stock h_x_ways_weight h_x_ways_known h_x_ways_found h_x_measured h_x_pairCounts h_past : Nat) (x_pastStates : Int32) (x_now_row : Int32) (x_now_table : Int32) (x_now_kept : Int32) (x_now_book : Nat → Int32) (x_text_length : Int32) (x_text_word : Int32) (x_text_kind : Int32) (x_text_number : Int32) (x_text_row : Int32) (x_text_reached : Int32) (x_text_broken : Int32) (x_text_signs : Nat → Int32) (x_trial_orders : Int32) (x_trial_position : Int32) (x_trial_reason : Int32) (x_trial_cause : Int32) (x_trial_state_row : Int32) (x_trial_state_table : Int32) (x_trial_state_kept : Int32) (x_trial_state_book : Nat → Int32) (x_ways_measure : Bool) (x_ways_values : Int32) (x_ways_row : Int32) (x_ways_rowCodes : Int32) (x_ways_table : Int32) (x_ways_length : Int32) (x_ways_full : Int32) (x_ways_pairs : Int32) (x_ways_codes : Int32) (x_ways_stock : Nat → Int32) (x_ways_weight : Nat → Int32) (x_ways_known : Nat → Int32) (x_ways_found : Nat → Int32) (x_measured_which : Int32) (x_measured_x : Int32) (x_measured_y : Int32) (x_measured_row : Int32) (x_measured_table : Int32) (x_pairCounts : Nat → Int32) (a1 : Int32) {res : Int32 × Int32 × (Nat → Int32)} (h : f_X5_type F x_text_length x_text_signs a1 = some res) : CtI l D cI cS X yX5_type cX5_type 2 (some .int) 2 [.ref h_x, .int a1] [(h_x, .inr (5, [.ref h_x_now, .ref h_past, .int x_pastStates, .ref h_x_text, .ref h_x_trial, .ref h_x_ways, .ref h_x_measured, .ref h_x_pairCounts])), (h_x_now, .inr (1, [.int x_now_row, .int x_now_table, .int x_now_kept, .ref h_x_now_book])), (h_x_now_book, .inl (cI, 8, .inl x_now_book)), (h_x_text, .inr (2, [.ref h_x_text_signs, .int x_text_length, .int x_text_word, .int x_text_kind, .int x_text_number, .int x_text_row, .int x_text_reached, .int x_text_broken])), (h_x_text_signs, .inl (cI, 60, .inl x_text_signs)), (h_x_trial, .inr (3, [.ref h_x_trial_state, .int x_trial_orders, .int x_trial_position, .int x_trial_reason, .int x_trial_cause])), (h_x_trial_state, .inr (1, [.int x_trial_state_row, .int x_trial_state_table, .int x_trial_state_kept, .ref h_x_trial_state_book])), (h_x_trial_state_book, .inl (cI, 8, .inl x_trial_state_book)), (h_x_ways, .inr (4, [.ref h_x_ways_stock, .ref h_x_ways_weight, .ref h_x_ways_known, .ref h_x_ways_found, nv x_ways_measure h_x_measured, .int x_ways_values, .int x_ways_row, .int x_ways_rowCodes, .int x_ways_table, .int x_ways_length, .int x_ways_full, .int x_ways_pairs, .int x_ways_codes])), (h_x_ways_stock, .inl (cI, 16, .inl x_ways_stock)), (h_x_ways_weight, .inl (cI, 16, .inl x_ways_weight)), (h_x_ways_known, .inl (cI, 577, .inl x_ways_known)), (h_x_ways_found, .inl (cI, 6347, .inl x_ways_found)), (h_x_measured, .inr (0, [.int x_measured_which, .int x_measured_x, .int x_measured_y, .int x_measured_row, .int x_measured_table])), (h_x_pairCounts, .inl (cI, 16, .inl x_pairCounts))] (PoI res.1 [(h_x, .inr (5, [.ref h_x_now, .ref h_past, .int x_pastStates, .ref h_x_text, .ref h_x_trial, .ref h_x_ways, .ref h_x_measured, .ref h_x_pairCounts])), (h_x_now, .inr (1, [.int x_now_row, .int x_now_table, .int x_now_kept, .ref h_x_now_book])), (h_x_now_book, .inl (cI, 8, .inl x_now_book)), (h_x_text, .inr (2, [.ref h_x_text_signs, .int res.2.1, .int x_text_word, .int x_text_kind, .int x_text_number, .int x_text_row, .int x_text_reached, .int x_text_broken])), (h_x_text_signs, .inl (cI, 60, .inl res.2.2)), (h_x_trial, .inr (3, [.ref h_x_trial_state, .int x_trial_orders, .int x_trial_position, .int x_trial_reason, .int x_trial_cause])), (h_x_trial_state, .inr (1, [.int x_trial_state_row, .int x_trial_state_table, .int x_trial_state_kept, .ref h_x_trial_state_book])), (h_x_trial_state_book, .inl (cI, 8, .inl x_trial_state_book)), (h_x_ways, .inr (4, [.ref h_x_ways_stock, .ref h_x_ways_weight, .ref h_x_ways_known, .ref h_x_ways_found, nv x_ways_measure h_x_measured, .int x_ways_values, .int x_ways_row, .int x_ways_rowCodes, .int x_ways_table, .int x_ways_length, .int x_ways_full, .int x_ways_pairs, .int x_ways_codes])), (h_x_ways_stock, .inl (cI, 16, .inl x_ways_stock)), (h_x_ways_weight, .inl (cI, 16, .inl x_ways_weight)), (h_x_ways_known, .inl (cI, 577, .inl x_ways_known)), (h_x_ways_found, .inl (cI, 6347, .inl x_ways_found)), (h_x_measured, .inr (0, [.int x_measured_which, .int x_measured_x, .int x_measured_y, .int x_measured_row, .int x_measured_table])), (h_x_pairCounts, .inl (cI, 16, .inl x_pairCounts))]) := by
  refine CtI.of (by decide +kernel) rfl ?_
  intro p e s m below meth c A hc
  refine G_lv (lv' := [(0, .ref h_x), (1, .int a1)]) (lsame_cons rfl (lsame_cons rfl lsame_nil)) ?_
  unfold f_X5_type at h
  refine G_iload_n hc dX5_type_0 rfl ?_
  refine G_bipush (v := 32) hc dX5_type_1 (by decide) ?_
  refine G_icmp_lt (tgt := 12) hc dX5_type_3 (by decide) (fun c5 => ?_) (fun c5 => ?_)
  · have h := ip h c5
    refine G_ldc (v := -1000001) hc k_X5_56 dX5_type_12 ?_
    have h := Option.some.inj h
    subst h
    exact G_ireturn hc ⟨rfl, rfl⟩ dX5_type_14
  · have h := inn h c5
    refine G_iload_n hc dX5_type_6 rfl ?_
    refine G_bipush (v := 126) hc dX5_type_7 (by decide) ?_
    refine G_icmp_le (tgt := 15) hc dX5_type_9 (by decide) (fun c4 => ?_) (fun c4 => ?_)
    · have h := ip h c4
      refine G_aload_n hc dX5_type_15 rfl ?_
      refine G_get hc f_X5_23 0 rfl rfl dX5_type_16 ?_
      refine G_get hc f_X5_178 3 rfl rfl dX5_type_19 ?_
      refine G_bipush (v := 60) hc dX5_type_22 (by decide) ?_
      refine G_icmp_lt (tgt := 30) hc dX5_type_24 (by decide) (fun c3 => ?_) (fun c3 => ?_)
      · have h := ip h c3
        refine G_aload_n hc dX5_type_30 rfl ?_
        refine G_get hc f_X5_23 0 rfl rfl dX5_type_31 ?_
        refine G_iload_n hc dX5_type_34 rfl ?_
        obtain ⟨z1, hu2, h⟩ := ob h
        refine G_callVV (ws2 := [(h_x, .inr (5, [.ref h_x_now, .ref h_past, .int x_pastStates, .ref h_x_text, .ref h_x_trial, .ref h_x_ways, .ref h_x_measured, .ref h_x_pairCounts])), (h_x_now, .inr (1, [.int x_now_row, .int x_now_table, .int x_now_kept, .ref h_x_now_book])), (h_x_now_book, .inl (cI, 8, .inl x_now_book)), (h_x_text, .inr (2, [.ref h_x_text_signs, .int z1.1, .int x_text_word, .int x_text_kind, .int x_text_number, .int x_text_row, .int x_text_reached, .int x_text_broken])), (h_x_text_signs, .inl (cI, 60, .inl z1.2)), (h_x_trial, .inr (3, [.ref h_x_trial_state, .int x_trial_orders, .int x_trial_position, .int x_trial_reason, .int x_trial_cause])), (h_x_trial_state, .inr (1, [.int x_trial_state_row, .int x_trial_state_table, .int x_trial_state_kept, .ref h_x_trial_state_book])), (h_x_trial_state_book, .inl (cI, 8, .inl x_trial_state_book)), (h_x_ways, .inr (4, [.ref h_x_ways_stock, .ref h_x_ways_weight, .ref h_x_ways_known, .ref h_x_ways_found, nv x_ways_measure h_x_measured, .int x_ways_values, .int x_ways_row, .int x_ways_rowCodes, .int x_ways_table, .int x_ways_length, .int x_ways_full, .int x_ways_pairs, .int x_ways_codes])), (h_x_ways_stock, .inl (cI, 16, .inl x_ways_stock)), (h_x_ways_weight, .inl (cI, 16, .inl x_ways_weight)), (h_x_ways_known, .inl (cI, 577, .inl x_ways_known)), (h_x_ways_found, .inl (cI, 6347, .inl x_ways_found)), (h_x_measured, .inr (0, [.int x_measured_which, .int x_measured_x, .int x_measured_y, .int x_measured_row, .int x_measured_table])), (h_x_pairCounts, .inl (cI, 16, .inl x_pairCounts))]) hc m_X5_185 (c_X2_put l D cI cS X F h_x_text h_x_text_signs x_text_length x_text_word x_text_kind x_text_number x_text_row x_text_reached x_text_broken x_text_signs a1 hu2) 3 [3, 4] rfl rfl (rmok_of (Nat.le_of_ble_eq_true rfl)) ⟨Nat.zero_le _, Nat.zero_le _⟩ rfl rfl rfl rfl rfl ⟨rfl, rfl, rfl⟩ dX5_type_35 ?_
        refine G_aload_n hc dX5_type_38 rfl ?_
        refine G_get hc f_X5_23 0 rfl rfl dX5_type_39 ?_
        refine G_get hc f_X5_178 3 rfl rfl dX5_type_42 ?_
        have h := Option.some.inj h
        subst h
        exact G_ireturn hc ⟨rfl, rfl⟩ dX5_type_45
      · have h := inn h c3
        refine G_ldc (v := -1000003) hc k_X5_65 dX5_type_27 ?_
        have h := Option.some.inj h
        subst h
        exact G_ireturn hc ⟨rfl, rfl⟩ dX5_type_29
    · have h := inn h c4
      refine G_ldc (v := -1000001) hc k_X5_56 dX5_type_12 ?_
      have h := Option.some.inj h
      subst h
      exact G_ireturn hc ⟨rfl, rfl⟩ dX5_type_14
set_option maxHeartbeats 4000000 in
set_option maxRecDepth 100000 in
theorem c_X5_clearText (l : Launch) (D : va_G) (cI cS : ClassId) (X : XP) (F : Nat) (h_x h_x_now h_x_now_book h_x_text h_x_text_signs h_x_trial h_x_trial_state h_x_trial_state_book h_x_ways h_x_ways_stock h_x_ways_weight h_x_ways_known h_x_ways_found h_x_measured h_x_pairCounts h_past : Nat) (x_pastStates : Int32) (x_now_row : Int32) (x_now_table : Int32) (x_now_kept : Int32) (x_now_book : Nat → Int32) (x_text_length : Int32) (x_text_word : Int32) (x_text_kind : Int32) (x_text_number : Int32) (x_text_row : Int32) (x_text_reached : Int32) (x_text_broken : Int32) (x_text_signs : Nat → Int32) (x_trial_orders : Int32) (x_trial_position : Int32) (x_trial_reason : Int32) (x_trial_cause : Int32) (x_trial_state_row : Int32) (x_trial_state_table : Int32) (x_trial_state_kept : Int32) (x_trial_state_book : Nat → Int32) (x_ways_measure : Bool) (x_ways_values : Int32) (x_ways_row : Int32) (x_ways_rowCodes : Int32) (x_ways_table : Int32) (x_ways_length : Int32) (x_ways_full : Int32) (x_ways_pairs : Int32) (x_ways_codes : Int32) (x_ways_stock : Nat → Int32) (x_ways_weight : Nat → Int32) (x_ways_known : Nat → Int32) (x_ways_found : Nat → Int32) (x_measured_which : Int32) (x_measured_x : Int32) (x_measured_y : Int32) (x_measured_row : Int32) (x_measured_table : Int32) (x_pairCounts : Nat → Int32) {res : Int32 × Int32} (h : f_X5_clearText F x_text_length = some res) : CtI l D cI cS X yX5_clearText cX5_clearText 2 (some .int) 1 [.ref h_x] [(h_x, .inr (5, [.ref h_x_now, .ref h_past, .int x_pastStates, .ref h_x_text, .ref h_x_trial, .ref h_x_ways, .ref h_x_measured, .ref h_x_pairCounts])), (h_x_now, .inr (1, [.int x_now_row, .int x_now_table, .int x_now_kept, .ref h_x_now_book])), (h_x_now_book, .inl (cI, 8, .inl x_now_book)), (h_x_text, .inr (2, [.ref h_x_text_signs, .int x_text_length, .int x_text_word, .int x_text_kind, .int x_text_number, .int x_text_row, .int x_text_reached, .int x_text_broken])), (h_x_text_signs, .inl (cI, 60, .inl x_text_signs)), (h_x_trial, .inr (3, [.ref h_x_trial_state, .int x_trial_orders, .int x_trial_position, .int x_trial_reason, .int x_trial_cause])), (h_x_trial_state, .inr (1, [.int x_trial_state_row, .int x_trial_state_table, .int x_trial_state_kept, .ref h_x_trial_state_book])), (h_x_trial_state_book, .inl (cI, 8, .inl x_trial_state_book)), (h_x_ways, .inr (4, [.ref h_x_ways_stock, .ref h_x_ways_weight, .ref h_x_ways_known, .ref h_x_ways_found, nv x_ways_measure h_x_measured, .int x_ways_values, .int x_ways_row, .int x_ways_rowCodes, .int x_ways_table, .int x_ways_length, .int x_ways_full, .int x_ways_pairs, .int x_ways_codes])), (h_x_ways_stock, .inl (cI, 16, .inl x_ways_stock)), (h_x_ways_weight, .inl (cI, 16, .inl x_ways_weight)), (h_x_ways_known, .inl (cI, 577, .inl x_ways_known)), (h_x_ways_found, .inl (cI, 6347, .inl x_ways_found)), (h_x_measured, .inr (0, [.int x_measured_which, .int x_measured_x, .int x_measured_y, .int x_measured_row, .int x_measured_table])), (h_x_pairCounts, .inl (cI, 16, .inl x_pairCounts))] (PoI res.1 [(h_x, .inr (5, [.ref h_x_now, .ref h_past, .int x_pastStates, .ref h_x_text, .ref h_x_trial, .ref h_x_ways, .ref h_x_measured, .ref h_x_pairCounts])), (h_x_now, .inr (1, [.int x_now_row, .int x_now_table, .int x_now_kept, .ref h_x_now_book])), (h_x_now_book, .inl (cI, 8, .inl x_now_book)), (h_x_text, .inr (2, [.ref h_x_text_signs, .int res.2, .int x_text_word, .int x_text_kind, .int x_text_number, .int x_text_row, .int x_text_reached, .int x_text_broken])), (h_x_text_signs, .inl (cI, 60, .inl x_text_signs)), (h_x_trial, .inr (3, [.ref h_x_trial_state, .int x_trial_orders, .int x_trial_position, .int x_trial_reason, .int x_trial_cause])), (h_x_trial_state, .inr (1, [.int x_trial_state_row, .int x_trial_state_table, .int x_trial_state_kept, .ref h_x_trial_state_book])), (h_x_trial_state_book, .inl (cI, 8, .inl x_trial_state_book)), (h_x_ways, .inr (4, [.ref h_x_ways_stock, .ref h_x_ways_weight, .ref h_x_ways_known, .ref h_x_ways_found, nv x_ways_measure h_x_measured, .int x_ways_values, .int x_ways_row, .int x_ways_rowCodes, .int x_ways_table, .int x_ways_length, .int x_ways_full, .int x_ways_pairs, .int x_ways_codes])), (h_x_ways_stock, .inl (cI, 16, .inl x_ways_stock)), (h_x_ways_weight, .inl (cI, 16, .inl x_ways_weight)), (h_x_ways_known, .inl (cI, 577, .inl x_ways_known)), (h_x_ways_found, .inl (cI, 6347, .inl x_ways_found)), (h_x_measured, .inr (0, [.int x_measured_which, .int x_measured_x, .int x_measured_y, .int x_measured_row, .int x_measured_table])), (h_x_pairCounts, .inl (cI, 16, .inl x_pairCounts))]) := by
  refine CtI.of (by decide +kernel) rfl ?_
  intro p e s m below meth c A hc
  refine G_lv (lv' := [(0, .ref h_x)]) (lsame_cons rfl lsame_nil) ?_
  unfold f_X5_clearText at h
  refine G_aload_n hc dX5_clearText_0 rfl ?_
  refine G_get hc f_X5_23 0 rfl rfl dX5_clearText_1 ?_
  refine G_get hc f_X5_178 3 rfl rfl dX5_clearText_4 ?_
  refine G_istore_n (lv' := [(0, .ref h_x), (1, .int x_text_length)]) hc dX5_clearText_7 rfl rfl ?_
  refine G_aload_n hc dX5_clearText_8 rfl ?_
  refine G_get hc f_X5_23 0 rfl rfl dX5_clearText_9 ?_
  refine G_iconst (v := 0) hc dX5_clearText_12 (by decide) ?_
  refine G_puti (ws' := [(h_x, .inr (5, [.ref h_x_now, .ref h_past, .int x_pastStates, .ref h_x_text, .ref h_x_trial, .ref h_x_ways, .ref h_x_measured, .ref h_x_pairCounts])), (h_x_now, .inr (1, [.int x_now_row, .int x_now_table, .int x_now_kept, .ref h_x_now_book])), (h_x_now_book, .inl (cI, 8, .inl x_now_book)), (h_x_text, .inr (2, [.ref h_x_text_signs, .int (0 : Int32), .int x_text_word, .int x_text_kind, .int x_text_number, .int x_text_row, .int x_text_reached, .int x_text_broken])), (h_x_text_signs, .inl (cI, 60, .inl x_text_signs)), (h_x_trial, .inr (3, [.ref h_x_trial_state, .int x_trial_orders, .int x_trial_position, .int x_trial_reason, .int x_trial_cause])), (h_x_trial_state, .inr (1, [.int x_trial_state_row, .int x_trial_state_table, .int x_trial_state_kept, .ref h_x_trial_state_book])), (h_x_trial_state_book, .inl (cI, 8, .inl x_trial_state_book)), (h_x_ways, .inr (4, [.ref h_x_ways_stock, .ref h_x_ways_weight, .ref h_x_ways_known, .ref h_x_ways_found, nv x_ways_measure h_x_measured, .int x_ways_values, .int x_ways_row, .int x_ways_rowCodes, .int x_ways_table, .int x_ways_length, .int x_ways_full, .int x_ways_pairs, .int x_ways_codes])), (h_x_ways_stock, .inl (cI, 16, .inl x_ways_stock)), (h_x_ways_weight, .inl (cI, 16, .inl x_ways_weight)), (h_x_ways_known, .inl (cI, 577, .inl x_ways_known)), (h_x_ways_found, .inl (cI, 6347, .inl x_ways_found)), (h_x_measured, .inr (0, [.int x_measured_which, .int x_measured_x, .int x_measured_y, .int x_measured_row, .int x_measured_table])), (h_x_pairCounts, .inl (cI, 16, .inl x_pairCounts))]) hc f_X5_178 p_X2_1 3 rfl rfl rfl dX5_clearText_13 ?_
  refine G_iload_n hc dX5_clearText_16 rfl ?_
  have h := Option.some.inj h
  subst h
  exact G_ireturn hc ⟨rfl, rfl⟩ dX5_clearText_17
set_option maxHeartbeats 4000000 in
set_option maxRecDepth 100000 in
theorem c_X1_become (l : Launch) (D : va_G) (cI cS : ClassId) (X : XP) (F : Nat) (h_s h_s_book h_o h_o_book : Nat) (s_row : Int32) (s_table : Int32) (s_kept : Int32) (s_book : Nat → Int32) (o_row : Int32) (o_table : Int32) (o_kept : Int32) (o_book : Nat → Int32) {res : Int32 × Int32 × Int32 × (Nat → Int32)} (h : f_X1_become F s_book o_row o_table o_kept o_book = some res) : CtV l D cI cS X yX1_become cX1_become 2 1 [.ref h_s, .ref h_o] [(h_s, .inr (1, [.int s_row, .int s_table, .int s_kept, .ref h_s_book])), (h_s_book, .inl (cI, 8, .inl s_book)), (h_o, .inr (1, [.int o_row, .int o_table, .int o_kept, .ref h_o_book])), (h_o_book, .inl (cI, 8, .inl o_book))] (PoV [(h_s, .inr (1, [.int res.1, .int res.2.1, .int res.2.2.1, .ref h_s_book])), (h_s_book, .inl (cI, 8, .inl res.2.2.2)), (h_o, .inr (1, [.int o_row, .int o_table, .int o_kept, .ref h_o_book])), (h_o_book, .inl (cI, 8, .inl o_book))]) := by
  refine CtV.of (by decide +kernel) rfl ?_
  intro p e s m below meth c A hc
  refine G_lv (lv' := [(0, .ref h_s), (1, .ref h_o)]) (lsame_cons rfl (lsame_cons rfl lsame_nil)) ?_
  unfold f_X1_become at h
  refine G_aload_n hc dX1_become_0 rfl ?_
  refine G_nonnull (tgt := 5) hc dX1_become_1 (by decide) ?_
  refine G_aload_n hc dX1_become_5 rfl ?_
  refine G_aload_n hc dX1_become_6 rfl ?_
  refine G_get hc f_X1_9 2 rfl rfl dX1_become_7 ?_
  refine G_puti (ws' := [(h_s, .inr (1, [.int o_row, .int s_table, .int s_kept, .ref h_s_book])), (h_s_book, .inl (cI, 8, .inl s_book)), (h_o, .inr (1, [.int o_row, .int o_table, .int o_kept, .ref h_o_book])), (h_o_book, .inl (cI, 8, .inl o_book))]) hc f_X1_9 p_X1_0 0 rfl rfl rfl dX1_become_10 ?_
  refine G_aload_n hc dX1_become_13 rfl ?_
  refine G_aload_n hc dX1_become_14 rfl ?_
  refine G_get hc f_X1_19 2 rfl rfl dX1_become_15 ?_
  refine G_puti (ws' := [(h_s, .inr (1, [.int o_row, .int o_table, .int s_kept, .ref h_s_book])), (h_s_book, .inl (cI, 8, .inl s_book)), (h_o, .inr (1, [.int o_row, .int o_table, .int o_kept, .ref h_o_book])), (h_o_book, .inl (cI, 8, .inl o_book))]) hc f_X1_19 p_X1_1 0 rfl rfl rfl dX1_become_18 ?_
  refine G_aload_n hc dX1_become_21 rfl ?_
  refine G_aload_n hc dX1_become_22 rfl ?_
  refine G_get hc f_X1_26 2 rfl rfl dX1_become_23 ?_
  refine G_puti (ws' := [(h_s, .inr (1, [.int o_row, .int o_table, .int o_kept, .ref h_s_book])), (h_s_book, .inl (cI, 8, .inl s_book)), (h_o, .inr (1, [.int o_row, .int o_table, .int o_kept, .ref h_o_book])), (h_o_book, .inl (cI, 8, .inl o_book))]) hc f_X1_26 p_X1_2 0 rfl rfl rfl dX1_become_26 ?_
  refine G_aload_n hc dX1_become_29 rfl ?_
  refine G_get hc f_X1_15 2 rfl rfl dX1_become_30 ?_
  refine G_iconst (v := 0) hc dX1_become_33 (by decide) ?_
  refine G_aload_n hc dX1_become_34 rfl ?_
  refine G_get hc f_X1_15 0 rfl rfl dX1_become_35 ?_
  refine G_iconst (v := 0) hc dX1_become_38 (by decide) ?_
  refine G_bipush (v := 8) hc dX1_become_39 (by decide) ?_
  obtain ⟨v1, i_v1, e_v1, h⟩ := cb h
  refine G_copy (ws' := [(h_s, .inr (1, [.int o_row, .int o_table, .int o_kept, .ref h_s_book])), (h_s_book, .inl (cI, 8, .inl v1)), (h_o, .inr (1, [.int o_row, .int o_table, .int o_kept, .ref h_o_book])), (h_o_book, .inl (cI, 8, .inl o_book))]) hc m_X1_29 acw 3 1 rfl rfl i_v1.1 i_v1.2.1 i_v1.2.2.1 i_v1.2.2.2.1 i_v1.2.2.2.2 e_v1 (rmk1 (Nat.le_of_ble_eq_true rfl)) rfl rfl dX1_become_41 ?_
  have h := Option.some.inj h
  subst h
  exact G_return hc rfl dX1_become_44
set_option maxHeartbeats 4000000 in
set_option maxRecDepth 100000 in
theorem c_X2_signAt (l : Launch) (D : va_G) (cI cS : ClassId) (X : XP) (F : Nat) (h_t h_t_signs : Nat) (t_length : Int32) (t_word : Int32) (t_kind : Int32) (t_number : Int32) (t_row : Int32) (t_reached : Int32) (t_broken : Int32) (t_signs : Nat → Int32) (a1 : Int32) {res : Int32} (h : f_X2_signAt F t_length t_signs a1 = some res) : CtI l D cI cS X yX2_signAt cX2_signAt 2 (some .int) 1 [.ref h_t, .int a1] [(h_t, .inr (2, [.ref h_t_signs, .int t_length, .int t_word, .int t_kind, .int t_number, .int t_row, .int t_reached, .int t_broken])), (h_t_signs, .inl (cI, 60, .inl t_signs))] (PoI res [(h_t, .inr (2, [.ref h_t_signs, .int t_length, .int t_word, .int t_kind, .int t_number, .int t_row, .int t_reached, .int t_broken])), (h_t_signs, .inl (cI, 60, .inl t_signs))]) := by
  refine CtI.of (by decide +kernel) rfl ?_
  intro p e s m below meth c A hc
  refine G_lv (lv' := [(0, .ref h_t), (1, .int a1)]) (lsame_cons rfl (lsame_cons rfl lsame_nil)) ?_
  unfold f_X2_signAt at h
  refine G_iload_n hc dX2_signAt_0 rfl ?_
  obtain ⟨t1, hr3, h⟩ := ob h
  have hj2 : G p l e (rmk 1) s m [.ref h_t, .int a1].toArray below meth c D A 2 0 0 (QI below [.ref h_t, .int a1].toArray s D A (PoI res [(h_t, .inr (2, [.ref h_t_signs, .int t_length, .int t_word, .int t_kind, .int t_number, .int t_row, .int t_reached, .int t_broken])), (h_t_signs, .inl (cI, 60, .inl t_signs))])) [(h_t, .inr (2, [.ref h_t_signs, .int t_length, .int t_word, .int t_kind, .int t_number, .int t_row, .int t_reached, .int t_broken])), (h_t_signs, .inl (cI, 60, .inl t_signs))] [] 31 [.int t1] := by
    have h := Option.some.inj h
    subst h
    exact G_ireturn hc ⟨rfl, rfl⟩ dX2_signAt_31
  clear h
  have h := hr3
  clear hr3
  refine G_if_lt (tgt := 30) hc dX2_signAt_1 (by decide) (fun c7 => ?_) (fun c7 => ?_)
  · have h := ip h c7
    refine G_iconst (v := -1) hc dX2_signAt_30 (by decide) ?_
    have h := Option.some.inj h
    subst h
    refine G_lv (lv' := []) lsame_nil ?_
    exact hj2
  · have h := inn h c7
    refine G_iload_n hc dX2_signAt_4 rfl ?_
    refine G_aload_n hc dX2_signAt_5 rfl ?_
    refine G_get hc f_X2_15 0 rfl rfl dX2_signAt_6 ?_
    refine G_icmp_ge (tgt := 30) hc dX2_signAt_9 (by decide) (fun c6 => ?_) (fun c6 => ?_)
    · have h := ip h c6
      refine G_iconst (v := -1) hc dX2_signAt_30 (by decide) ?_
      have h := Option.some.inj h
      subst h
      refine G_lv (lv' := []) lsame_nil ?_
      exact hj2
    · have h := inn h c6
      refine G_iload_n hc dX2_signAt_12 rfl ?_
      refine G_aload_n hc dX2_signAt_13 rfl ?_
      refine G_get hc f_X2_9 0 rfl rfl dX2_signAt_14 ?_
      refine G_alen (v := 60) hc 1 rfl (by decide) dX2_signAt_17 ?_
      refine G_icmp_ge (tgt := 30) hc dX2_signAt_18 (by decide) (fun c5 => ?_) (fun c5 => ?_)
      · have h := ip h c5
        refine G_iconst (v := -1) hc dX2_signAt_30 (by decide) ?_
        have h := Option.some.inj h
        subst h
        refine G_lv (lv' := []) lsame_nil ?_
        exact hj2
      · have h := inn h c5
        refine G_aload_n hc dX2_signAt_21 rfl ?_
        refine G_get hc f_X2_9 0 rfl rfl dX2_signAt_22 ?_
        refine G_iload_n hc dX2_signAt_25 rfl ?_
        obtain ⟨v4, i_v4, e_v4, h⟩ := rb h
        refine G_iald hc 1 rfl i_v4 e_v4 dX2_signAt_26 ?_
        refine G_goto (tgt := 31) hc dX2_signAt_27 (by decide) ?_
        have h := Option.some.inj h
        subst h
        refine G_lv (lv' := []) lsame_nil ?_
        exact hj2
set_option maxHeartbeats 4000000 in
set_option maxRecDepth 100000 in
theorem c_X2_isBetween (l : Launch) (D : va_G) (cI cS : ClassId) (X : XP) (F : Nat) (h_t h_t_signs : Nat) (t_length : Int32) (t_word : Int32) (t_kind : Int32) (t_number : Int32) (t_row : Int32) (t_reached : Int32) (t_broken : Int32) (t_signs : Nat → Int32) (a1 : Int32) (a2 : Int32) {res : Int32} (h : f_X2_isBetween F t_length t_reached t_signs a1 a2 = some res) : CtI l D cI cS X yX2_isBetween cX2_isBetween 4 (some .boolean) 2 [.ref h_t, .int a1, .int a2] [(h_t, .inr (2, [.ref h_t_signs, .int t_length, .int t_word, .int t_kind, .int t_number, .int t_row, .int t_reached, .int t_broken])), (h_t_signs, .inl (cI, 60, .inl t_signs))] (PoI res [(h_t, .inr (2, [.ref h_t_signs, .int t_length, .int t_word, .int t_kind, .int t_number, .int t_row, .int t_reached, .int t_broken])), (h_t_signs, .inl (cI, 60, .inl t_signs))]) := by
  refine CtI.of (by decide +kernel) rfl ?_
  intro p e s m below meth c A hc
  refine G_lv (lv' := [(0, .ref h_t), (1, .int a1), (2, .int a2)]) (lsame_cons rfl (lsame_cons rfl (lsame_cons rfl lsame_nil))) ?_
  unfold f_X2_isBetween at h
  refine G_aload_n hc dX2_isBetween_0 rfl ?_
  refine G_aload_n hc dX2_isBetween_1 rfl ?_
  refine G_get hc f_X2_28 0 rfl rfl dX2_isBetween_2 ?_
  obtain ⟨z1, hu2, h⟩ := ob h
  refine G_callVI (ws2 := [(h_t, .inr (2, [.ref h_t_signs, .int t_length, .int t_word, .int t_kind, .int t_number, .int t_row, .int t_reached, .int t_broken])), (h_t_signs, .inl (cI, 60, .inl t_signs))]) hc m_X2_60 (c_X2_signAt l D cI cS X F h_t h_t_signs t_length t_word t_kind t_number t_row t_reached t_broken t_signs t_reached hu2) 0 [0, 1] rfl rfl (rmok_of (Nat.le_of_ble_eq_true rfl)) ⟨Nat.zero_le _, Nat.zero_le _⟩ rfl rfl rfl rfl rfl ⟨rfl, rfl, rfl⟩ dX2_isBetween_5 ?_
  refine G_istore_n (lv' := [(0, .ref h_t), (1, .int a1), (2, .int a2), (3, .int z1)]) hc dX2_isBetween_8 rfl rfl ?_
  refine G_iload_n hc dX2_isBetween_9 rfl ?_
  refine G_iload_n hc dX2_isBetween_10 rfl ?_
  obtain ⟨t3, hr5, h⟩ := ob h
  have hj4 : G p l e (rmk 2) s m [.ref h_t, .int a1, .int a2].toArray below meth c D A 4 0 0 (QI below [.ref h_t, .int a1, .int a2].toArray s D A (PoI res [(h_t, .inr (2, [.ref h_t_signs, .int t_length, .int t_word, .int t_kind, .int t_number, .int t_row, .int t_reached, .int t_broken])), (h_t_signs, .inl (cI, 60, .inl t_signs))])) [(h_t, .inr (2, [.ref h_t_signs, .int t_length, .int t_word, .int t_kind, .int t_number, .int t_row, .int t_reached, .int t_broken])), (h_t_signs, .inl (cI, 60, .inl t_signs))] [] 24 [.int t3] := by
    obtain ⟨hz8, h⟩ := zb h
    have h := Option.some.inj h
    subst h
    exact G_zreturn hc hz8 ⟨rfl, rfl⟩ dX2_isBetween_24
  clear h
  have h := hr5
  clear hr5
  refine G_icmp_lt (tgt := 23) hc dX2_isBetween_11 (by decide) (fun c7 => ?_) (fun c7 => ?_)
  · have h := ip h c7
    refine G_iconst (v := 0) hc dX2_isBetween_23 (by decide) ?_
    have h := Option.some.inj h
    subst h
    refine G_lv (lv' := []) lsame_nil ?_
    exact hj4
  · have h := inn h c7
    refine G_iload_n hc dX2_isBetween_14 rfl ?_
    refine G_iload_n hc dX2_isBetween_15 rfl ?_
    refine G_icmp_gt (tgt := 23) hc dX2_isBetween_16 (by decide) (fun c6 => ?_) (fun c6 => ?_)
    · have h := ip h c6
      refine G_iconst (v := 0) hc dX2_isBetween_23 (by decide) ?_
      have h := Option.some.inj h
      subst h
      refine G_lv (lv' := []) lsame_nil ?_
      exact hj4
    · have h := inn h c6
      refine G_iconst (v := 1) hc dX2_isBetween_19 (by decide) ?_
      refine G_goto (tgt := 24) hc dX2_isBetween_20 (by decide) ?_
      have h := Option.some.inj h
      subst h
      refine G_lv (lv' := []) lsame_nil ?_
      exact hj4
