set_option maxHeartbeats 4000000 in
set_option maxRecDepth 100000 in
theorem c_X4_openMeasured_wM (l : Launch) (D : va_G) (cI cS : ClassId) (X : XP) (F : Nat) (h_w h_w_stock h_w_weight h_w_known h_w_found h_wM h_o h_o_book : Nat) (w_measure : Bool) (w_values : Int32) (w_row : Int32) (w_rowCodes : Int32) (w_table : Int32) (w_length : Int32) (w_full : Int32) (w_pairs : Int32) (w_codes : Int32) (w_stock : Nat → Int32) (w_weight : Nat → Int32) (w_known : Nat → Int32) (w_found : Nat → Int32) (wM_which : Int32) (wM_x : Int32) (wM_y : Int32) (wM_row : Int32) (wM_table : Int32) (o_row : Int32) (o_table : Int32) (o_kept : Int32) (o_book : Nat → Int32) (a2 : Int32) {res : Bool × Int32 × Int32 × Int32 × Int32 × Int32 × Int32 × Int32 × Int32 × (Nat → Int32) × (Nat → Int32) × (Nat → Int32) × (Nat → Int32)} (h : f_X4_openMeasured_wM F w_stock w_weight w_known w_found wM_which wM_x wM_y wM_row wM_table o_row o_table a2 = some res) : CtV l D cI cS X yX4_openMeasured cX4_openMeasured 4 17 [.ref h_w, .ref h_o, .int a2, .ref h_wM] [(h_w, .inr (4, [.ref h_w_stock, .ref h_w_weight, .ref h_w_known, .ref h_w_found, nv w_measure h_wM, .int w_values, .int w_row, .int w_rowCodes, .int w_table, .int w_length, .int w_full, .int w_pairs, .int w_codes])), (h_w_stock, .inl (cI, 16, .inl w_stock)), (h_w_weight, .inl (cI, 16, .inl w_weight)), (h_w_known, .inl (cI, 577, .inl w_known)), (h_w_found, .inl (cI, 6347, .inl w_found)), (h_wM, .inr (0, [.int wM_which, .int wM_x, .int wM_y, .int wM_row, .int wM_table])), (h_o, .inr (1, [.int o_row, .int o_table, .int o_kept, .ref h_o_book])), (h_o_book, .inl (cI, 8, .inl o_book))] (PoV [(h_w, .inr (4, [.ref h_w_stock, .ref h_w_weight, .ref h_w_known, .ref h_w_found, nv res.1 h_wM, .int res.2.1, .int res.2.2.1, .int res.2.2.2.1, .int res.2.2.2.2.1, .int res.2.2.2.2.2.1, .int res.2.2.2.2.2.2.1, .int res.2.2.2.2.2.2.2.1, .int res.2.2.2.2.2.2.2.2.1])), (h_w_stock, .inl (cI, 16, .inl res.2.2.2.2.2.2.2.2.2.1)), (h_w_weight, .inl (cI, 16, .inl res.2.2.2.2.2.2.2.2.2.2.1)), (h_w_known, .inl (cI, 577, .inl res.2.2.2.2.2.2.2.2.2.2.2.1)), (h_w_found, .inl (cI, 6347, .inl res.2.2.2.2.2.2.2.2.2.2.2.2)), (h_wM, .inr (0, [.int wM_which, .int wM_x, .int wM_y, .int wM_row, .int wM_table])), (h_o, .inr (1, [.int o_row, .int o_table, .int o_kept, .ref h_o_book])), (h_o_book, .inl (cI, 8, .inl o_book))]) := by
  refine CtV.of (by decide +kernel) rfl ?_
  intro p e s m below meth c A hc
  refine G_lv (lv' := [(0, .ref h_w), (1, .ref h_o), (2, .int a2), (3, .ref h_wM)]) (lsame_cons rfl (lsame_cons rfl (lsame_cons rfl (lsame_cons rfl lsame_nil)))) ?_
  unfold f_X4_openMeasured_wM at h
  refine G_aload_n hc dX4_openMeasured_0 rfl ?_
  refine G_aload_n hc dX4_openMeasured_1 rfl ?_
  refine G_put (ws' := [(h_w, .inr (4, [.ref h_w_stock, .ref h_w_weight, .ref h_w_known, .ref h_w_found, nv false h_wM, .int w_values, .int w_row, .int w_rowCodes, .int w_table, .int w_length, .int w_full, .int w_pairs, .int w_codes])), (h_w_stock, .inl (cI, 16, .inl w_stock)), (h_w_weight, .inl (cI, 16, .inl w_weight)), (h_w_known, .inl (cI, 577, .inl w_known)), (h_w_found, .inl (cI, 6347, .inl w_found)), (h_wM, .inr (0, [.int wM_which, .int wM_x, .int wM_y, .int wM_row, .int wM_table])), (h_o, .inr (1, [.int o_row, .int o_table, .int o_kept, .ref h_o_book])), (h_o_book, .inl (cI, 8, .inl o_book))]) (v := .ref h_wM) hc f_X4_24 p_X4_4 0 rfl rfl rfl rfl rfl dX4_openMeasured_2 ?_
  refine G_aload_n hc dX4_openMeasured_5 rfl ?_
  refine G_iload_n hc dX4_openMeasured_6 rfl ?_
  obtain ⟨z1, hu2, h⟩ := ob h
  refine G_callNI (ws2 := [(h_w, .inr (4, [.ref h_w_stock, .ref h_w_weight, .ref h_w_known, .ref h_w_found, nv false h_wM, .int w_values, .int w_row, .int w_rowCodes, .int w_table, .int w_length, .int w_full, .int w_pairs, .int w_codes])), (h_w_stock, .inl (cI, 16, .inl w_stock)), (h_w_weight, .inl (cI, 16, .inl w_weight)), (h_w_known, .inl (cI, 577, .inl w_known)), (h_w_found, .inl (cI, 6347, .inl w_found)), (h_wM, .inr (0, [.int wM_which, .int wM_x, .int wM_y, .int wM_row, .int wM_table])), (h_o, .inr (1, [.int o_row, .int o_table, .int o_kept, .ref h_o_book])), (h_o_book, .inl (cI, 8, .inl o_book))]) hc m_X4_28 (c_X5_keepsPairs l D cI cS X F a2 hu2) [] (rmok_of (Nat.le_of_ble_eq_true rfl)) ⟨Nat.zero_le _, Nat.zero_le _⟩ rfl rfl rfl rfl rfl ⟨rfl, rfl, rfl⟩ dX4_openMeasured_7 ?_
  obtain ⟨hz3, h⟩ := zb h
  refine G_putz (ws' := [(h_w, .inr (4, [.ref h_w_stock, .ref h_w_weight, .ref h_w_known, .ref h_w_found, nv false h_wM, .int w_values, .int w_row, .int w_rowCodes, .int w_table, .int w_length, .int w_full, .int z1, .int w_codes])), (h_w_stock, .inl (cI, 16, .inl w_stock)), (h_w_weight, .inl (cI, 16, .inl w_weight)), (h_w_known, .inl (cI, 577, .inl w_known)), (h_w_found, .inl (cI, 6347, .inl w_found)), (h_wM, .inr (0, [.int wM_which, .int wM_x, .int wM_y, .int wM_row, .int wM_table])), (h_o, .inr (1, [.int o_row, .int o_table, .int o_kept, .ref h_o_book])), (h_o_book, .inl (cI, 8, .inl o_book))]) hc f_X4_32 p_X4_11 0 hz3 rfl rfl rfl dX4_openMeasured_10 ?_
  refine G_aload_n hc dX4_openMeasured_13 rfl ?_
  refine G_iload_n hc dX4_openMeasured_14 rfl ?_
  obtain ⟨z4, hu5, h⟩ := ob h
  refine G_callNI (ws2 := [(h_w, .inr (4, [.ref h_w_stock, .ref h_w_weight, .ref h_w_known, .ref h_w_found, nv false h_wM, .int w_values, .int w_row, .int w_rowCodes, .int w_table, .int w_length, .int w_full, .int z1, .int w_codes])), (h_w_stock, .inl (cI, 16, .inl w_stock)), (h_w_weight, .inl (cI, 16, .inl w_weight)), (h_w_known, .inl (cI, 577, .inl w_known)), (h_w_found, .inl (cI, 6347, .inl w_found)), (h_wM, .inr (0, [.int wM_which, .int wM_x, .int wM_y, .int wM_row, .int wM_table])), (h_o, .inr (1, [.int o_row, .int o_table, .int o_kept, .ref h_o_book])), (h_o_book, .inl (cI, 8, .inl o_book))]) hc m_X4_36 (c_X5_keepsCodes l D cI cS X F a2 hu5) [] (rmok_of (Nat.le_of_ble_eq_true rfl)) ⟨Nat.zero_le _, Nat.zero_le _⟩ rfl rfl rfl rfl rfl ⟨rfl, rfl, rfl⟩ dX4_openMeasured_15 ?_
  obtain ⟨hz6, h⟩ := zb h
  refine G_putz (ws' := [(h_w, .inr (4, [.ref h_w_stock, .ref h_w_weight, .ref h_w_known, .ref h_w_found, nv false h_wM, .int w_values, .int w_row, .int w_rowCodes, .int w_table, .int w_length, .int w_full, .int z1, .int z4])), (h_w_stock, .inl (cI, 16, .inl w_stock)), (h_w_weight, .inl (cI, 16, .inl w_weight)), (h_w_known, .inl (cI, 577, .inl w_known)), (h_w_found, .inl (cI, 6347, .inl w_found)), (h_wM, .inr (0, [.int wM_which, .int wM_x, .int wM_y, .int wM_row, .int wM_table])), (h_o, .inr (1, [.int o_row, .int o_table, .int o_kept, .ref h_o_book])), (h_o_book, .inl (cI, 8, .inl o_book))]) hc f_X4_39 p_X4_12 0 hz6 rfl rfl rfl dX4_openMeasured_18 ?_
  refine G_aload_n hc dX4_openMeasured_21 rfl ?_
  refine G_aload_n hc dX4_openMeasured_22 rfl ?_
  obtain ⟨z7, hu8, h⟩ := ob h
  refine G_callVV (ws2 := [(h_w, .inr (4, [.ref h_w_stock, .ref h_w_weight, .ref h_w_known, .ref h_w_found, nv false h_wM, .int z7.1, .int z7.2.1, .int z7.2.2.1, .int z7.2.2.2.1, .int z7.2.2.2.2.1, .int z7.2.2.2.2.2.1, .int z1, .int z4])), (h_w_stock, .inl (cI, 16, .inl z7.2.2.2.2.2.2.1)), (h_w_weight, .inl (cI, 16, .inl z7.2.2.2.2.2.2.2.1)), (h_w_known, .inl (cI, 577, .inl z7.2.2.2.2.2.2.2.2)), (h_w_found, .inl (cI, 6347, .inl w_found)), (h_wM, .inr (0, [.int wM_which, .int wM_x, .int wM_y, .int wM_row, .int wM_table])), (h_o, .inr (1, [.int o_row, .int o_table, .int o_kept, .ref h_o_book])), (h_o_book, .inl (cI, 8, .inl o_book))]) hc m_X4_42 (c_X4_prepare l D cI cS X F h_w h_w_stock h_w_weight h_w_known h_w_found h_wM h_o h_o_book false w_values w_row w_rowCodes w_table w_length w_full z1 z4 w_stock w_weight w_known w_found wM_which wM_x wM_y wM_row wM_table o_row o_table o_kept o_book hu8) 0 [0, 1, 2, 3, 4, 5, 6, 7] rfl rfl (rmok_of (Nat.le_of_ble_eq_true rfl)) ⟨Nat.zero_le _, Nat.zero_le _⟩ rfl rfl rfl rfl rfl ⟨rfl, rfl, rfl⟩ dX4_openMeasured_23 ?_
  refine G_aload_n hc dX4_openMeasured_26 rfl ?_
  refine G_aload_n hc dX4_openMeasured_27 rfl ?_
  refine G_get hc f_X4_46 0 rfl rfl dX4_openMeasured_28 ?_
  refine G_iconst (v := 0) hc dX4_openMeasured_31 (by decide) ?_
  refine G_iconst (v := 0) hc dX4_openMeasured_32 (by decide) ?_
  obtain ⟨z9, hu10, h⟩ := ob h
  refine G_callSV (ws2 := [(h_w, .inr (4, [.ref h_w_stock, .ref h_w_weight, .ref h_w_known, .ref h_w_found, nv false h_wM, .int z7.1, .int z7.2.1, .int z7.2.2.1, .int z7.2.2.2.1, .int z7.2.2.2.2.1, .int z7.2.2.2.2.2.1, .int z1, .int z4])), (h_w_stock, .inl (cI, 16, .inl z7.2.2.2.2.2.2.1)), (h_w_weight, .inl (cI, 16, .inl z7.2.2.2.2.2.2.2.1)), (h_w_known, .inl (cI, 577, .inl z9.1)), (h_w_found, .inl (cI, 6347, .inl z9.2)), (h_wM, .inr (0, [.int wM_which, .int wM_x, .int wM_y, .int wM_row, .int wM_table])), (h_o, .inr (1, [.int o_row, .int o_table, .int o_kept, .ref h_o_book])), (h_o_book, .inl (cI, 8, .inl o_book))]) hc m_X4_50 (c_X4_solve l D cI cS X F 12 h_w h_w_stock h_w_weight h_w_known h_w_found h_wM false z7.1 z7.2.1 z7.2.2.1 z7.2.2.2.1 z7.2.2.2.2.1 z7.2.2.2.2.2.1 z1 z4 z7.2.2.2.2.2.2.1 z7.2.2.2.2.2.2.2.1 z7.2.2.2.2.2.2.2.2 w_found wM_which wM_x wM_y wM_row wM_table z7.2.2.2.2.2.1 (0 : Int32) (0 : Int32) hu10) [0, 1, 2, 3, 4, 5] (rmok_of (Nat.le_of_ble_eq_true rfl)) ⟨Nat.zero_le _, Nat.zero_le _⟩ rfl rfl rfl rfl rfl ⟨rfl, rfl, rfl⟩ dX4_openMeasured_33 ?_
  have h := Option.some.inj h
  subst h
  exact G_return hc rfl dX4_openMeasured_36
set_option maxHeartbeats 4000000 in
set_option maxRecDepth 100000 in
theorem c_X4_atLeast (l : Launch) (D : va_G) (cI cS : ClassId) (X : XP) (F : Nat) (h_w h_w_stock h_w_weight h_w_known h_w_found h_wM : Nat) (w_measure : Bool) (w_values : Int32) (w_row : Int32) (w_rowCodes : Int32) (w_table : Int32) (w_length : Int32) (w_full : Int32) (w_pairs : Int32) (w_codes : Int32) (w_stock : Nat → Int32) (w_weight : Nat → Int32) (w_known : Nat → Int32) (w_found : Nat → Int32) (wM_which : Int32) (wM_x : Int32) (wM_y : Int32) (wM_row : Int32) (wM_table : Int32) (a1 : Int32) {res : Int32} (h : f_X4_atLeast F w_values w_found a1 = some res) : CtI l D cI cS X yX4_atLeast cX4_atLeast 4 (some .int) 2 [.ref h_w, .int a1] [(h_w, .inr (4, [.ref h_w_stock, .ref h_w_weight, .ref h_w_known, .ref h_w_found, nv w_measure h_wM, .int w_values, .int w_row, .int w_rowCodes, .int w_table, .int w_length, .int w_full, .int w_pairs, .int w_codes])), (h_w_stock, .inl (cI, 16, .inl w_stock)), (h_w_weight, .inl (cI, 16, .inl w_weight)), (h_w_known, .inl (cI, 577, .inl w_known)), (h_w_found, .inl (cI, 6347, .inl w_found)), (h_wM, .inr (0, [.int wM_which, .int wM_x, .int wM_y, .int wM_row, .int wM_table]))] (PoI res [(h_w, .inr (4, [.ref h_w_stock, .ref h_w_weight, .ref h_w_known, .ref h_w_found, nv w_measure h_wM, .int w_values, .int w_row, .int w_rowCodes, .int w_table, .int w_length, .int w_full, .int w_pairs, .int w_codes])), (h_w_stock, .inl (cI, 16, .inl w_stock)), (h_w_weight, .inl (cI, 16, .inl w_weight)), (h_w_known, .inl (cI, 577, .inl w_known)), (h_w_found, .inl (cI, 6347, .inl w_found)), (h_wM, .inr (0, [.int wM_which, .int wM_x, .int wM_y, .int wM_row, .int wM_table]))]) := by
  refine CtI.of (by decide +kernel) rfl ?_
  intro p e s m below meth c A hc
  refine G_lv (lv' := [(0, .ref h_w), (1, .int a1)]) (lsame_cons rfl (lsame_cons rfl lsame_nil)) ?_
  unfold f_X4_atLeast at h
  refine G_iconst (v := 0) hc dX4_atLeast_0 (by decide) ?_
  refine G_istore_n (lv' := [(0, .ref h_w), (1, .int a1), (2, .int (0 : Int32))]) hc dX4_atLeast_1 rfl rfl ?_
  refine G_iload_n hc dX4_atLeast_2 rfl ?_
  refine G_istore_n (lv' := [(0, .ref h_w), (1, .int a1), (2, .int (0 : Int32)), (3, .int a1)]) hc dX4_atLeast_3 rfl rfl ?_
  obtain ⟨e3, hl4, h⟩ := ob h
  have hK8 : G p l e (rmk 2) s m [.ref h_w, .int a1].toArray below meth c D A 4 0 0 (QI below [.ref h_w, .int a1].toArray s D A (PoI res [(h_w, .inr (4, [.ref h_w_stock, .ref h_w_weight, .ref h_w_known, .ref h_w_found, nv w_measure h_wM, .int w_values, .int w_row, .int w_rowCodes, .int w_table, .int w_length, .int w_full, .int w_pairs, .int w_codes])), (h_w_stock, .inl (cI, 16, .inl w_stock)), (h_w_weight, .inl (cI, 16, .inl w_weight)), (h_w_known, .inl (cI, 577, .inl w_known)), (h_w_found, .inl (cI, 6347, .inl w_found)), (h_wM, .inr (0, [.int wM_which, .int wM_x, .int wM_y, .int wM_row, .int wM_table]))])) [(h_w, .inr (4, [.ref h_w_stock, .ref h_w_weight, .ref h_w_known, .ref h_w_found, nv w_measure h_wM, .int w_values, .int w_row, .int w_rowCodes, .int w_table, .int w_length, .int w_full, .int w_pairs, .int w_codes])), (h_w_stock, .inl (cI, 16, .inl w_stock)), (h_w_weight, .inl (cI, 16, .inl w_weight)), (h_w_known, .inl (cI, 577, .inl w_known)), (h_w_found, .inl (cI, 6347, .inl w_found)), (h_wM, .inr (0, [.int wM_which, .int wM_x, .int wM_y, .int wM_row, .int wM_table]))] [(2, .int e3)] 29 [] := by
    refine G_iload_n hc dX4_atLeast_29 rfl ?_
    have h := Option.some.inj h
    subst h
    exact G_ireturn hc ⟨rfl, rfl⟩ dX4_atLeast_30
  clear h
  have hL5 : ∀ (n6 : Nat) (u1 : Int32) (u2 : Int32), f_X4_atLeast_L4 F w_values w_found n6 u1 u2 = some e3 → G p l e (rmk 2) s m [.ref h_w, .int a1].toArray below meth c D A 4 0 0 (QI below [.ref h_w, .int a1].toArray s D A (PoI res [(h_w, .inr (4, [.ref h_w_stock, .ref h_w_weight, .ref h_w_known, .ref h_w_found, nv w_measure h_wM, .int w_values, .int w_row, .int w_rowCodes, .int w_table, .int w_length, .int w_full, .int w_pairs, .int w_codes])), (h_w_stock, .inl (cI, 16, .inl w_stock)), (h_w_weight, .inl (cI, 16, .inl w_weight)), (h_w_known, .inl (cI, 577, .inl w_known)), (h_w_found, .inl (cI, 6347, .inl w_found)), (h_wM, .inr (0, [.int wM_which, .int wM_x, .int wM_y, .int wM_row, .int wM_table]))])) [(h_w, .inr (4, [.ref h_w_stock, .ref h_w_weight, .ref h_w_known, .ref h_w_found, nv w_measure h_wM, .int w_values, .int w_row, .int w_rowCodes, .int w_table, .int w_length, .int w_full, .int w_pairs, .int w_codes])), (h_w_stock, .inl (cI, 16, .inl w_stock)), (h_w_weight, .inl (cI, 16, .inl w_weight)), (h_w_known, .inl (cI, 577, .inl w_known)), (h_w_found, .inl (cI, 6347, .inl w_found)), (h_wM, .inr (0, [.int wM_which, .int wM_x, .int wM_y, .int wM_row, .int wM_table]))] [(0, .ref h_w), (2, .int u1), (3, .int u2)] 4 [] := by
    intro n6
    induction n6 with
    | zero =>
      intro u1 u2 h
      exact nz h
    | succ n6 ih7 =>
      intro u1 u2 h
      rw [f_X4_atLeast_L4] at h
      refine G_iload_n hc dX4_atLeast_4 rfl ?_
      refine G_aload_n hc dX4_atLeast_5 rfl ?_
      refine G_get hc f_X4_77 0 rfl rfl dX4_atLeast_6 ?_
      refine G_icmp_ge (tgt := 29) hc dX4_atLeast_9 (by decide) (fun c13 => ?_) (fun c13 => ?_)
      · have h := ip h c13
        have h := Option.some.inj h
        subst h
        refine G_lv (lv' := [(2, .int u1)]) (lsame_cons rfl lsame_nil) ?_
        exact hK8
      · have h := inn h c13
        refine G_iload_n hc dX4_atLeast_12 rfl ?_
        refine G_aload_n hc dX4_atLeast_13 rfl ?_
        refine G_sipush (v := 576) hc dX4_atLeast_14 (by decide) ?_
        refine G_iload_n hc dX4_atLeast_17 rfl ?_
        obtain ⟨z9, hu10, h⟩ := ob h
        refine G_callVI (ws2 := [(h_w, .inr (4, [.ref h_w_stock, .ref h_w_weight, .ref h_w_known, .ref h_w_found, nv w_measure h_wM, .int w_values, .int w_row, .int w_rowCodes, .int w_table, .int w_length, .int w_full, .int w_pairs, .int w_codes])), (h_w_stock, .inl (cI, 16, .inl w_stock)), (h_w_weight, .inl (cI, 16, .inl w_weight)), (h_w_known, .inl (cI, 577, .inl w_known)), (h_w_found, .inl (cI, 6347, .inl w_found)), (h_wM, .inr (0, [.int wM_which, .int wM_x, .int wM_y, .int wM_row, .int wM_table]))]) hc m_X4_138 (c_X4_number l D cI cS X F h_w h_w_stock h_w_weight h_w_known h_w_found h_wM w_measure w_values w_row w_rowCodes w_table w_length w_full w_pairs w_codes w_stock w_weight w_known w_found wM_which wM_x wM_y wM_row wM_table (576 : Int32) u2 hu10) 0 [0, 1, 2, 3, 4, 5] rfl rfl (rmok_of (Nat.le_of_ble_eq_true rfl)) ⟨Nat.zero_le _, Nat.zero_le _⟩ rfl rfl rfl rfl rfl ⟨rfl, rfl, rfl⟩ dX4_atLeast_18 ?_
        refine G_iadd hc dX4_atLeast_21 ?_
        obtain ⟨v11, e_v11, h⟩ := sb h
        refine G_top e_v11 ?_
        refine G_istore_n (lv' := [(0, .ref h_w), (2, .int v11), (3, .int u2)]) hc dX4_atLeast_22 rfl rfl ?_
        obtain ⟨v12, e_v12, h⟩ := sb h
        refine G_iinc (v := v12) (lv' := [(0, .ref h_w), (2, .int v11), (3, .int v12)]) hc dX4_atLeast_23 rfl (e_v12.trans rfl) rfl rfl ?_
        refine G_goto (tgt := 4) hc dX4_atLeast_26 (by decide) ?_
        refine G_lv (lv' := [(0, .ref h_w), (2, .int v11), (3, .int v12)]) (lsame_cons rfl (lsame_cons rfl (lsame_cons rfl lsame_nil))) ?_
        exact ih7 _ _ h
  refine G_lv (lv' := [(0, .ref h_w), (2, .int (0 : Int32)), (3, .int a1)]) (lsame_cons rfl (lsame_cons rfl (lsame_cons rfl lsame_nil))) ?_
  exact hL5 F _ _ hl4
set_option maxHeartbeats 4000000 in
set_option maxRecDepth 100000 in
theorem c_X4_least (l : Launch) (D : va_G) (cI cS : ClassId) (X : XP) (F : Nat) (h_w h_w_stock h_w_weight h_w_known h_w_found h_wM : Nat) (w_measure : Bool) (w_values : Int32) (w_row : Int32) (w_rowCodes : Int32) (w_table : Int32) (w_length : Int32) (w_full : Int32) (w_pairs : Int32) (w_codes : Int32) (w_stock : Nat → Int32) (w_weight : Nat → Int32) (w_known : Nat → Int32) (w_found : Nat → Int32) (wM_which : Int32) (wM_x : Int32) (wM_y : Int32) (wM_row : Int32) (wM_table : Int32) {res : Int32} (h : f_X4_least F w_values w_found = some res) : CtI l D cI cS X yX4_least cX4_least 2 (some .int) 2 [.ref h_w] [(h_w, .inr (4, [.ref h_w_stock, .ref h_w_weight, .ref h_w_known, .ref h_w_found, nv w_measure h_wM, .int w_values, .int w_row, .int w_rowCodes, .int w_table, .int w_length, .int w_full, .int w_pairs, .int w_codes])), (h_w_stock, .inl (cI, 16, .inl w_stock)), (h_w_weight, .inl (cI, 16, .inl w_weight)), (h_w_known, .inl (cI, 577, .inl w_known)), (h_w_found, .inl (cI, 6347, .inl w_found)), (h_wM, .inr (0, [.int wM_which, .int wM_x, .int wM_y, .int wM_row, .int wM_table]))] (PoI res [(h_w, .inr (4, [.ref h_w_stock, .ref h_w_weight, .ref h_w_known, .ref h_w_found, nv w_measure h_wM, .int w_values, .int w_row, .int w_rowCodes, .int w_table, .int w_length, .int w_full, .int w_pairs, .int w_codes])), (h_w_stock, .inl (cI, 16, .inl w_stock)), (h_w_weight, .inl (cI, 16, .inl w_weight)), (h_w_known, .inl (cI, 577, .inl w_known)), (h_w_found, .inl (cI, 6347, .inl w_found)), (h_wM, .inr (0, [.int wM_which, .int wM_x, .int wM_y, .int wM_row, .int wM_table]))]) := by
  refine CtI.of (by decide +kernel) rfl ?_
  intro p e s m below meth c A hc
  refine G_lv (lv' := [(0, .ref h_w)]) (lsame_cons rfl lsame_nil) ?_
  unfold f_X4_least at h
  refine G_iconst (v := 0) hc dX4_least_0 (by decide) ?_
  refine G_istore_n (lv' := [(0, .ref h_w), (1, .int (0 : Int32))]) hc dX4_least_1 rfl rfl ?_
  obtain ⟨e2, hl3, h⟩ := ob h
  have hK7 : ∀ ax9, e2 = (Sum.inl ax9) → G p l e (rmk 2) s m [.ref h_w].toArray below meth c D A 2 0 0 (QI below [.ref h_w].toArray s D A (PoI res [(h_w, .inr (4, [.ref h_w_stock, .ref h_w_weight, .ref h_w_known, .ref h_w_found, nv w_measure h_wM, .int w_values, .int w_row, .int w_rowCodes, .int w_table, .int w_length, .int w_full, .int w_pairs, .int w_codes])), (h_w_stock, .inl (cI, 16, .inl w_stock)), (h_w_weight, .inl (cI, 16, .inl w_weight)), (h_w_known, .inl (cI, 577, .inl w_known)), (h_w_found, .inl (cI, 6347, .inl w_found)), (h_wM, .inr (0, [.int wM_which, .int wM_x, .int wM_y, .int wM_row, .int wM_table]))])) [(h_w, .inr (4, [.ref h_w_stock, .ref h_w_weight, .ref h_w_known, .ref h_w_found, nv w_measure h_wM, .int w_values, .int w_row, .int w_rowCodes, .int w_table, .int w_length, .int w_full, .int w_pairs, .int w_codes])), (h_w_stock, .inl (cI, 16, .inl w_stock)), (h_w_weight, .inl (cI, 16, .inl w_weight)), (h_w_known, .inl (cI, 577, .inl w_known)), (h_w_found, .inl (cI, 6347, .inl w_found)), (h_wM, .inr (0, [.int wM_which, .int wM_x, .int wM_y, .int wM_row, .int wM_table]))] [(1, .int ax9)] 21 [] := by
    intro ax9 he
    subst he
    simp only [Sum.elim_inl, Sum.elim_inr] at h
    refine G_iload_n hc dX4_least_21 rfl ?_
    have h := Option.some.inj h
    subst h
    exact G_ireturn hc ⟨rfl, rfl⟩ dX4_least_22
  have hK8 : ∀ ax10, e2 = (Sum.inr ax10) → G p l e (rmk 2) s m [.ref h_w].toArray below meth c D A 2 0 0 (QI below [.ref h_w].toArray s D A (PoI res [(h_w, .inr (4, [.ref h_w_stock, .ref h_w_weight, .ref h_w_known, .ref h_w_found, nv w_measure h_wM, .int w_values, .int w_row, .int w_rowCodes, .int w_table, .int w_length, .int w_full, .int w_pairs, .int w_codes])), (h_w_stock, .inl (cI, 16, .inl w_stock)), (h_w_weight, .inl (cI, 16, .inl w_weight)), (h_w_known, .inl (cI, 577, .inl w_known)), (h_w_found, .inl (cI, 6347, .inl w_found)), (h_wM, .inr (0, [.int wM_which, .int wM_x, .int wM_y, .int wM_row, .int wM_table]))])) [(h_w, .inr (4, [.ref h_w_stock, .ref h_w_weight, .ref h_w_known, .ref h_w_found, nv w_measure h_wM, .int w_values, .int w_row, .int w_rowCodes, .int w_table, .int w_length, .int w_full, .int w_pairs, .int w_codes])), (h_w_stock, .inl (cI, 16, .inl w_stock)), (h_w_weight, .inl (cI, 16, .inl w_weight)), (h_w_known, .inl (cI, 577, .inl w_known)), (h_w_found, .inl (cI, 6347, .inl w_found)), (h_wM, .inr (0, [.int wM_which, .int wM_x, .int wM_y, .int wM_row, .int wM_table]))] [] 29 [] := by
    intro ax10 he
    subst he
    simp only [Sum.elim_inl, Sum.elim_inr] at h
    refine G_iconst (v := 0) hc dX4_least_29 (by decide) ?_
    have h := Option.some.inj h
    subst h
    exact G_ireturn hc ⟨rfl, rfl⟩ dX4_least_30
  clear h
  have hL4 : ∀ (n5 : Nat) (u1 : Int32), f_X4_least_L2 F w_values w_found n5 u1 = some e2 → G p l e (rmk 2) s m [.ref h_w].toArray below meth c D A 2 0 0 (QI below [.ref h_w].toArray s D A (PoI res [(h_w, .inr (4, [.ref h_w_stock, .ref h_w_weight, .ref h_w_known, .ref h_w_found, nv w_measure h_wM, .int w_values, .int w_row, .int w_rowCodes, .int w_table, .int w_length, .int w_full, .int w_pairs, .int w_codes])), (h_w_stock, .inl (cI, 16, .inl w_stock)), (h_w_weight, .inl (cI, 16, .inl w_weight)), (h_w_known, .inl (cI, 577, .inl w_known)), (h_w_found, .inl (cI, 6347, .inl w_found)), (h_wM, .inr (0, [.int wM_which, .int wM_x, .int wM_y, .int wM_row, .int wM_table]))])) [(h_w, .inr (4, [.ref h_w_stock, .ref h_w_weight, .ref h_w_known, .ref h_w_found, nv w_measure h_wM, .int w_values, .int w_row, .int w_rowCodes, .int w_table, .int w_length, .int w_full, .int w_pairs, .int w_codes])), (h_w_stock, .inl (cI, 16, .inl w_stock)), (h_w_weight, .inl (cI, 16, .inl w_weight)), (h_w_known, .inl (cI, 577, .inl w_known)), (h_w_found, .inl (cI, 6347, .inl w_found)), (h_wM, .inr (0, [.int wM_which, .int wM_x, .int wM_y, .int wM_row, .int wM_table]))] [(0, .ref h_w), (1, .int u1)] 2 [] := by
    intro n5
    induction n5 with
    | zero =>
      intro u1 h
      exact nz h
    | succ n5 ih6 =>
      intro u1 h
      rw [f_X4_least_L2] at h
      refine G_iload_n hc dX4_least_2 rfl ?_
      refine G_aload_n hc dX4_least_3 rfl ?_
      refine G_get hc f_X4_77 0 rfl rfl dX4_least_4 ?_
      refine G_icmp_ge (tgt := 29) hc dX4_least_7 (by decide) (fun c15 => ?_) (fun c15 => ?_)
      · have h := ip h c15
        have h := Option.some.inj h
        subst h
        refine G_lv (lv' := []) lsame_nil ?_
        exact hK8 _ rfl
      · have h := inn h c15
        refine G_aload_n hc dX4_least_10 rfl ?_
        refine G_sipush (v := 576) hc dX4_least_11 (by decide) ?_
        refine G_iload_n hc dX4_least_14 rfl ?_
        obtain ⟨z11, hu12, h⟩ := ob h
        refine G_callVI (ws2 := [(h_w, .inr (4, [.ref h_w_stock, .ref h_w_weight, .ref h_w_known, .ref h_w_found, nv w_measure h_wM, .int w_values, .int w_row, .int w_rowCodes, .int w_table, .int w_length, .int w_full, .int w_pairs, .int w_codes])), (h_w_stock, .inl (cI, 16, .inl w_stock)), (h_w_weight, .inl (cI, 16, .inl w_weight)), (h_w_known, .inl (cI, 577, .inl w_known)), (h_w_found, .inl (cI, 6347, .inl w_found)), (h_wM, .inr (0, [.int wM_which, .int wM_x, .int wM_y, .int wM_row, .int wM_table]))]) hc m_X4_138 (c_X4_number l D cI cS X F h_w h_w_stock h_w_weight h_w_known h_w_found h_wM w_measure w_values w_row w_rowCodes w_table w_length w_full w_pairs w_codes w_stock w_weight w_known w_found wM_which wM_x wM_y wM_row wM_table (576 : Int32) u1 hu12) 0 [0, 1, 2, 3, 4, 5] rfl rfl (rmok_of (Nat.le_of_ble_eq_true rfl)) ⟨Nat.zero_le _, Nat.zero_le _⟩ rfl rfl rfl rfl rfl ⟨rfl, rfl, rfl⟩ dX4_least_15 ?_
        refine G_if_le (tgt := 23) hc dX4_least_18 (by decide) (fun c14 => ?_) (fun c14 => ?_)
        · have h := ip h c14
          obtain ⟨v13, e_v13, h⟩ := sb h
          refine G_iinc (v := v13) (lv' := [(0, .ref h_w), (1, .int v13)]) hc dX4_least_23 rfl (e_v13.trans rfl) rfl rfl ?_
          refine G_goto (tgt := 2) hc dX4_least_26 (by decide) ?_
          refine G_lv (lv' := [(0, .ref h_w), (1, .int v13)]) (lsame_cons rfl (lsame_cons rfl lsame_nil)) ?_
          exact ih6 _ h
        · have h := inn h c14
          have h := Option.some.inj h
          subst h
          refine G_lv (lv' := [(1, .int u1)]) (lsame_cons rfl lsame_nil) ?_
          exact hK7 _ rfl
  refine G_lv (lv' := [(0, .ref h_w), (1, .int (0 : Int32))]) (lsame_cons rfl (lsame_cons rfl lsame_nil)) ?_
  exact hL4 F _ hl3
set_option maxHeartbeats 4000000 in
set_option maxRecDepth 100000 in
theorem c_X4_greatest (l : Launch) (D : va_G) (cI cS : ClassId) (X : XP) (F : Nat) (h_w h_w_stock h_w_weight h_w_known h_w_found h_wM : Nat) (w_measure : Bool) (w_values : Int32) (w_row : Int32) (w_rowCodes : Int32) (w_table : Int32) (w_length : Int32) (w_full : Int32) (w_pairs : Int32) (w_codes : Int32) (w_stock : Nat → Int32) (w_weight : Nat → Int32) (w_known : Nat → Int32) (w_found : Nat → Int32) (wM_which : Int32) (wM_x : Int32) (wM_y : Int32) (wM_row : Int32) (wM_table : Int32) {res : Int32} (h : f_X4_greatest F w_values w_found = some res) : CtI l D cI cS X yX4_greatest cX4_greatest 2 (some .int) 2 [.ref h_w] [(h_w, .inr (4, [.ref h_w_stock, .ref h_w_weight, .ref h_w_known, .ref h_w_found, nv w_measure h_wM, .int w_values, .int w_row, .int w_rowCodes, .int w_table, .int w_length, .int w_full, .int w_pairs, .int w_codes])), (h_w_stock, .inl (cI, 16, .inl w_stock)), (h_w_weight, .inl (cI, 16, .inl w_weight)), (h_w_known, .inl (cI, 577, .inl w_known)), (h_w_found, .inl (cI, 6347, .inl w_found)), (h_wM, .inr (0, [.int wM_which, .int wM_x, .int wM_y, .int wM_row, .int wM_table]))] (PoI res [(h_w, .inr (4, [.ref h_w_stock, .ref h_w_weight, .ref h_w_known, .ref h_w_found, nv w_measure h_wM, .int w_values, .int w_row, .int w_rowCodes, .int w_table, .int w_length, .int w_full, .int w_pairs, .int w_codes])), (h_w_stock, .inl (cI, 16, .inl w_stock)), (h_w_weight, .inl (cI, 16, .inl w_weight)), (h_w_known, .inl (cI, 577, .inl w_known)), (h_w_found, .inl (cI, 6347, .inl w_found)), (h_wM, .inr (0, [.int wM_which, .int wM_x, .int wM_y, .int wM_row, .int wM_table]))]) := by
  refine CtI.of (by decide +kernel) rfl ?_
  intro p e s m below meth c A hc
  refine G_lv (lv' := [(0, .ref h_w)]) (lsame_cons rfl lsame_nil) ?_
  unfold f_X4_greatest at h
  refine G_aload_n hc dX4_greatest_0 rfl ?_
  refine G_get hc f_X4_77 0 rfl rfl dX4_greatest_1 ?_
  refine G_iconst (v := 1) hc dX4_greatest_4 (by decide) ?_
  refine G_isub hc dX4_greatest_5 ?_
  obtain ⟨v1, e_v1, h⟩ := sb h
  refine G_top e_v1 ?_
  refine G_istore_n (lv' := [(0, .ref h_w), (1, .int v1)]) hc dX4_greatest_6 rfl rfl ?_
  obtain ⟨e3, hl4, h⟩ := ob h
  have hK8 : ∀ ax10, e3 = (Sum.inl ax10) → G p l e (rmk 2) s m [.ref h_w].toArray below meth c D A 2 0 0 (QI below [.ref h_w].toArray s D A (PoI res [(h_w, .inr (4, [.ref h_w_stock, .ref h_w_weight, .ref h_w_known, .ref h_w_found, nv w_measure h_wM, .int w_values, .int w_row, .int w_rowCodes, .int w_table, .int w_length, .int w_full, .int w_pairs, .int w_codes])), (h_w_stock, .inl (cI, 16, .inl w_stock)), (h_w_weight, .inl (cI, 16, .inl w_weight)), (h_w_known, .inl (cI, 577, .inl w_known)), (h_w_found, .inl (cI, 6347, .inl w_found)), (h_wM, .inr (0, [.int wM_which, .int wM_x, .int wM_y, .int wM_row, .int wM_table]))])) [(h_w, .inr (4, [.ref h_w_stock, .ref h_w_weight, .ref h_w_known, .ref h_w_found, nv w_measure h_wM, .int w_values, .int w_row, .int w_rowCodes, .int w_table, .int w_length, .int w_full, .int w_pairs, .int w_codes])), (h_w_stock, .inl (cI, 16, .inl w_stock)), (h_w_weight, .inl (cI, 16, .inl w_weight)), (h_w_known, .inl (cI, 577, .inl w_known)), (h_w_found, .inl (cI, 6347, .inl w_found)), (h_wM, .inr (0, [.int wM_which, .int wM_x, .int wM_y, .int wM_row, .int wM_table]))] [(1, .int ax10)] 22 [] := by
    intro ax10 he
    subst he
    simp only [Sum.elim_inl, Sum.elim_inr] at h
    refine G_iload_n hc dX4_greatest_22 rfl ?_
    have h := Option.some.inj h
    subst h
    exact G_ireturn hc ⟨rfl, rfl⟩ dX4_greatest_23
  have hK9 : ∀ ax11, e3 = (Sum.inr ax11) → G p l e (rmk 2) s m [.ref h_w].toArray below meth c D A 2 0 0 (QI below [.ref h_w].toArray s D A (PoI res [(h_w, .inr (4, [.ref h_w_stock, .ref h_w_weight, .ref h_w_known, .ref h_w_found, nv w_measure h_wM, .int w_values, .int w_row, .int w_rowCodes, .int w_table, .int w_length, .int w_full, .int w_pairs, .int w_codes])), (h_w_stock, .inl (cI, 16, .inl w_stock)), (h_w_weight, .inl (cI, 16, .inl w_weight)), (h_w_known, .inl (cI, 577, .inl w_known)), (h_w_found, .inl (cI, 6347, .inl w_found)), (h_wM, .inr (0, [.int wM_which, .int wM_x, .int wM_y, .int wM_row, .int wM_table]))])) [(h_w, .inr (4, [.ref h_w_stock, .ref h_w_weight, .ref h_w_known, .ref h_w_found, nv w_measure h_wM, .int w_values, .int w_row, .int w_rowCodes, .int w_table, .int w_length, .int w_full, .int w_pairs, .int w_codes])), (h_w_stock, .inl (cI, 16, .inl w_stock)), (h_w_weight, .inl (cI, 16, .inl w_weight)), (h_w_known, .inl (cI, 577, .inl w_known)), (h_w_found, .inl (cI, 6347, .inl w_found)), (h_wM, .inr (0, [.int wM_which, .int wM_x, .int wM_y, .int wM_row, .int wM_table]))] [] 30 [] := by
    intro ax11 he
    subst he
    simp only [Sum.elim_inl, Sum.elim_inr] at h
    refine G_iconst (v := 0) hc dX4_greatest_30 (by decide) ?_
    have h := Option.some.inj h
    subst h
    exact G_ireturn hc ⟨rfl, rfl⟩ dX4_greatest_31
  clear h
  have hL5 : ∀ (n6 : Nat) (u2 : Int32), f_X4_greatest_L7 F w_found n6 u2 = some e3 → G p l e (rmk 2) s m [.ref h_w].toArray below meth c D A 2 0 0 (QI below [.ref h_w].toArray s D A (PoI res [(h_w, .inr (4, [.ref h_w_stock, .ref h_w_weight, .ref h_w_known, .ref h_w_found, nv w_measure h_wM, .int w_values, .int w_row, .int w_rowCodes, .int w_table, .int w_length, .int w_full, .int w_pairs, .int w_codes])), (h_w_stock, .inl (cI, 16, .inl w_stock)), (h_w_weight, .inl (cI, 16, .inl w_weight)), (h_w_known, .inl (cI, 577, .inl w_known)), (h_w_found, .inl (cI, 6347, .inl w_found)), (h_wM, .inr (0, [.int wM_which, .int wM_x, .int wM_y, .int wM_row, .int wM_table]))])) [(h_w, .inr (4, [.ref h_w_stock, .ref h_w_weight, .ref h_w_known, .ref h_w_found, nv w_measure h_wM, .int w_values, .int w_row, .int w_rowCodes, .int w_table, .int w_length, .int w_full, .int w_pairs, .int w_codes])), (h_w_stock, .inl (cI, 16, .inl w_stock)), (h_w_weight, .inl (cI, 16, .inl w_weight)), (h_w_known, .inl (cI, 577, .inl w_known)), (h_w_found, .inl (cI, 6347, .inl w_found)), (h_wM, .inr (0, [.int wM_which, .int wM_x, .int wM_y, .int wM_row, .int wM_table]))] [(0, .ref h_w), (1, .int u2)] 7 [] := by
    intro n6
    induction n6 with
    | zero =>
      intro u2 h
      exact nz h
    | succ n6 ih7 =>
      intro u2 h
      rw [f_X4_greatest_L7] at h
      refine G_iload_n hc dX4_greatest_7 rfl ?_
      refine G_if_le (tgt := 30) hc dX4_greatest_8 (by decide) (fun c16 => ?_) (fun c16 => ?_)
      · have h := ip h c16
        have h := Option.some.inj h
        subst h
        refine G_lv (lv' := []) lsame_nil ?_
        exact hK9 _ rfl
      · have h := inn h c16
        refine G_aload_n hc dX4_greatest_11 rfl ?_
        refine G_sipush (v := 576) hc dX4_greatest_12 (by decide) ?_
        refine G_iload_n hc dX4_greatest_15 rfl ?_
        obtain ⟨z12, hu13, h⟩ := ob h
        refine G_callVI (ws2 := [(h_w, .inr (4, [.ref h_w_stock, .ref h_w_weight, .ref h_w_known, .ref h_w_found, nv w_measure h_wM, .int w_values, .int w_row, .int w_rowCodes, .int w_table, .int w_length, .int w_full, .int w_pairs, .int w_codes])), (h_w_stock, .inl (cI, 16, .inl w_stock)), (h_w_weight, .inl (cI, 16, .inl w_weight)), (h_w_known, .inl (cI, 577, .inl w_known)), (h_w_found, .inl (cI, 6347, .inl w_found)), (h_wM, .inr (0, [.int wM_which, .int wM_x, .int wM_y, .int wM_row, .int wM_table]))]) hc m_X4_138 (c_X4_number l D cI cS X F h_w h_w_stock h_w_weight h_w_known h_w_found h_wM w_measure w_values w_row w_rowCodes w_table w_length w_full w_pairs w_codes w_stock w_weight w_known w_found wM_which wM_x wM_y wM_row wM_table (576 : Int32) u2 hu13) 0 [0, 1, 2, 3, 4, 5] rfl rfl (rmok_of (Nat.le_of_ble_eq_true rfl)) ⟨Nat.zero_le _, Nat.zero_le _⟩ rfl rfl rfl rfl rfl ⟨rfl, rfl, rfl⟩ dX4_greatest_16 ?_
        refine G_if_le (tgt := 24) hc dX4_greatest_19 (by decide) (fun c15 => ?_) (fun c15 => ?_)
        · have h := ip h c15
          obtain ⟨v14, e_v14, h⟩ := sb h
          refine G_iinc (v := v14) (lv' := [(0, .ref h_w), (1, .int v14)]) hc dX4_greatest_24 rfl (e_v14.trans rfl) rfl rfl ?_
          refine G_goto (tgt := 7) hc dX4_greatest_27 (by decide) ?_
          refine G_lv (lv' := [(0, .ref h_w), (1, .int v14)]) (lsame_cons rfl (lsame_cons rfl lsame_nil)) ?_
          exact ih7 _ h
        · have h := inn h c15
          have h := Option.some.inj h
          subst h
          refine G_lv (lv' := [(1, .int u2)]) (lsame_cons rfl lsame_nil) ?_
          exact hK8 _ rfl
  refine G_lv (lv' := [(0, .ref h_w), (1, .int v1)]) (lsame_cons rfl (lsame_cons rfl lsame_nil)) ?_
  exact hL5 F _ hl4
set_option maxHeartbeats 4000000 in
set_option maxRecDepth 100000 in
theorem c_X4_sum (l : Launch) (D : va_G) (cI cS : ClassId) (X : XP) (F : Nat) (h_w h_w_stock h_w_weight h_w_known h_w_found h_wM : Nat) (w_measure : Bool) (w_values : Int32) (w_row : Int32) (w_rowCodes : Int32) (w_table : Int32) (w_length : Int32) (w_full : Int32) (w_pairs : Int32) (w_codes : Int32) (w_stock : Nat → Int32) (w_weight : Nat → Int32) (w_known : Nat → Int32) (w_found : Nat → Int32) (wM_which : Int32) (wM_x : Int32) (wM_y : Int32) (wM_row : Int32) (wM_table : Int32) {res : Int32} (h : f_X4_sum F w_values w_found = some res) : CtI l D cI cS X yX4_sum cX4_sum 3 (some .int) 2 [.ref h_w] [(h_w, .inr (4, [.ref h_w_stock, .ref h_w_weight, .ref h_w_known, .ref h_w_found, nv w_measure h_wM, .int w_values, .int w_row, .int w_rowCodes, .int w_table, .int w_length, .int w_full, .int w_pairs, .int w_codes])), (h_w_stock, .inl (cI, 16, .inl w_stock)), (h_w_weight, .inl (cI, 16, .inl w_weight)), (h_w_known, .inl (cI, 577, .inl w_known)), (h_w_found, .inl (cI, 6347, .inl w_found)), (h_wM, .inr (0, [.int wM_which, .int wM_x, .int wM_y, .int wM_row, .int wM_table]))] (PoI res [(h_w, .inr (4, [.ref h_w_stock, .ref h_w_weight, .ref h_w_known, .ref h_w_found, nv w_measure h_wM, .int w_values, .int w_row, .int w_rowCodes, .int w_table, .int w_length, .int w_full, .int w_pairs, .int w_codes])), (h_w_stock, .inl (cI, 16, .inl w_stock)), (h_w_weight, .inl (cI, 16, .inl w_weight)), (h_w_known, .inl (cI, 577, .inl w_known)), (h_w_found, .inl (cI, 6347, .inl w_found)), (h_wM, .inr (0, [.int wM_which, .int wM_x, .int wM_y, .int wM_row, .int wM_table]))]) := by
  refine CtI.of (by decide +kernel) rfl ?_
  intro p e s m below meth c A hc
  refine G_lv (lv' := [(0, .ref h_w)]) (lsame_cons rfl lsame_nil) ?_
  unfold f_X4_sum at h
  refine G_iconst (v := 0) hc dX4_sum_0 (by decide) ?_
  refine G_istore_n (lv' := [(0, .ref h_w), (1, .int (0 : Int32))]) hc dX4_sum_1 rfl rfl ?_
  refine G_iconst (v := 0) hc dX4_sum_2 (by decide) ?_
  refine G_istore_n (lv' := [(0, .ref h_w), (1, .int (0 : Int32)), (2, .int (0 : Int32))]) hc dX4_sum_3 rfl rfl ?_
  obtain ⟨e3, hl4, h⟩ := ob h
  have hK8 : G p l e (rmk 2) s m [.ref h_w].toArray below meth c D A 3 0 0 (QI below [.ref h_w].toArray s D A (PoI res [(h_w, .inr (4, [.ref h_w_stock, .ref h_w_weight, .ref h_w_known, .ref h_w_found, nv w_measure h_wM, .int w_values, .int w_row, .int w_rowCodes, .int w_table, .int w_length, .int w_full, .int w_pairs, .int w_codes])), (h_w_stock, .inl (cI, 16, .inl w_stock)), (h_w_weight, .inl (cI, 16, .inl w_weight)), (h_w_known, .inl (cI, 577, .inl w_known)), (h_w_found, .inl (cI, 6347, .inl w_found)), (h_wM, .inr (0, [.int wM_which, .int wM_x, .int wM_y, .int wM_row, .int wM_table]))])) [(h_w, .inr (4, [.ref h_w_stock, .ref h_w_weight, .ref h_w_known, .ref h_w_found, nv w_measure h_wM, .int w_values, .int w_row, .int w_rowCodes, .int w_table, .int w_length, .int w_full, .int w_pairs, .int w_codes])), (h_w_stock, .inl (cI, 16, .inl w_stock)), (h_w_weight, .inl (cI, 16, .inl w_weight)), (h_w_known, .inl (cI, 577, .inl w_known)), (h_w_found, .inl (cI, 6347, .inl w_found)), (h_wM, .inr (0, [.int wM_which, .int wM_x, .int wM_y, .int wM_row, .int wM_table]))] [(1, .int e3)] 31 [] := by
    refine G_iload_n hc dX4_sum_31 rfl ?_
    have h := Option.some.inj h
    subst h
    exact G_ireturn hc ⟨rfl, rfl⟩ dX4_sum_32
  clear h
  have hL5 : ∀ (n6 : Nat) (u1 : Int32) (u2 : Int32), f_X4_sum_L4 F w_values w_found n6 u1 u2 = some e3 → G p l e (rmk 2) s m [.ref h_w].toArray below meth c D A 3 0 0 (QI below [.ref h_w].toArray s D A (PoI res [(h_w, .inr (4, [.ref h_w_stock, .ref h_w_weight, .ref h_w_known, .ref h_w_found, nv w_measure h_wM, .int w_values, .int w_row, .int w_rowCodes, .int w_table, .int w_length, .int w_full, .int w_pairs, .int w_codes])), (h_w_stock, .inl (cI, 16, .inl w_stock)), (h_w_weight, .inl (cI, 16, .inl w_weight)), (h_w_known, .inl (cI, 577, .inl w_known)), (h_w_found, .inl (cI, 6347, .inl w_found)), (h_wM, .inr (0, [.int wM_which, .int wM_x, .int wM_y, .int wM_row, .int wM_table]))])) [(h_w, .inr (4, [.ref h_w_stock, .ref h_w_weight, .ref h_w_known, .ref h_w_found, nv w_measure h_wM, .int w_values, .int w_row, .int w_rowCodes, .int w_table, .int w_length, .int w_full, .int w_pairs, .int w_codes])), (h_w_stock, .inl (cI, 16, .inl w_stock)), (h_w_weight, .inl (cI, 16, .inl w_weight)), (h_w_known, .inl (cI, 577, .inl w_known)), (h_w_found, .inl (cI, 6347, .inl w_found)), (h_wM, .inr (0, [.int wM_which, .int wM_x, .int wM_y, .int wM_row, .int wM_table]))] [(0, .ref h_w), (1, .int u1), (2, .int u2)] 4 [] := by
    intro n6
    induction n6 with
    | zero =>
      intro u1 u2 h
      exact nz h
    | succ n6 ih7 =>
      intro u1 u2 h
      rw [f_X4_sum_L4] at h
      refine G_iload_n hc dX4_sum_4 rfl ?_
      refine G_aload_n hc dX4_sum_5 rfl ?_
      refine G_get hc f_X4_77 0 rfl rfl dX4_sum_6 ?_
      refine G_icmp_ge (tgt := 31) hc dX4_sum_9 (by decide) (fun c13 => ?_) (fun c13 => ?_)
      · have h := ip h c13
        have h := Option.some.inj h
        subst h
        refine G_lv (lv' := [(1, .int u1)]) (lsame_cons rfl lsame_nil) ?_
        exact hK8
      · have h := inn h c13
        refine G_iload_n hc dX4_sum_12 rfl ?_
        refine G_iload_n hc dX4_sum_13 rfl ?_
        refine G_aload_n hc dX4_sum_14 rfl ?_
        refine G_sipush (v := 576) hc dX4_sum_15 (by decide) ?_
        refine G_iload_n hc dX4_sum_18 rfl ?_
        obtain ⟨z9, hu10, h⟩ := ob h
        refine G_callVI (ws2 := [(h_w, .inr (4, [.ref h_w_stock, .ref h_w_weight, .ref h_w_known, .ref h_w_found, nv w_measure h_wM, .int w_values, .int w_row, .int w_rowCodes, .int w_table, .int w_length, .int w_full, .int w_pairs, .int w_codes])), (h_w_stock, .inl (cI, 16, .inl w_stock)), (h_w_weight, .inl (cI, 16, .inl w_weight)), (h_w_known, .inl (cI, 577, .inl w_known)), (h_w_found, .inl (cI, 6347, .inl w_found)), (h_wM, .inr (0, [.int wM_which, .int wM_x, .int wM_y, .int wM_row, .int wM_table]))]) hc m_X4_138 (c_X4_number l D cI cS X F h_w h_w_stock h_w_weight h_w_known h_w_found h_wM w_measure w_values w_row w_rowCodes w_table w_length w_full w_pairs w_codes w_stock w_weight w_known w_found wM_which wM_x wM_y wM_row wM_table (576 : Int32) u2 hu10) 0 [0, 1, 2, 3, 4, 5] rfl rfl (rmok_of (Nat.le_of_ble_eq_true rfl)) ⟨Nat.zero_le _, Nat.zero_le _⟩ rfl rfl rfl rfl rfl ⟨rfl, rfl, rfl⟩ dX4_sum_19 ?_
        refine G_imul hc dX4_sum_22 ?_
        refine G_iadd hc dX4_sum_23 ?_
        obtain ⟨v11, e_v11, h⟩ := sb h
        refine G_top e_v11 ?_
        refine G_istore_n (lv' := [(0, .ref h_w), (1, .int v11), (2, .int u2)]) hc dX4_sum_24 rfl rfl ?_
        obtain ⟨v12, e_v12, h⟩ := sb h
        refine G_iinc (v := v12) (lv' := [(0, .ref h_w), (1, .int v11), (2, .int v12)]) hc dX4_sum_25 rfl (e_v12.trans rfl) rfl rfl ?_
        refine G_goto (tgt := 4) hc dX4_sum_28 (by decide) ?_
        refine G_lv (lv' := [(0, .ref h_w), (1, .int v11), (2, .int v12)]) (lsame_cons rfl (lsame_cons rfl (lsame_cons rfl lsame_nil))) ?_
        exact ih7 _ _ h
  refine G_lv (lv' := [(0, .ref h_w), (1, .int (0 : Int32)), (2, .int (0 : Int32))]) (lsame_cons rfl (lsame_cons rfl (lsame_cons rfl lsame_nil))) ?_
  exact hL5 F _ _ hl4
set_option maxHeartbeats 4000000 in
set_option maxRecDepth 100000 in
theorem c_X4_canGain (l : Launch) (D : va_G) (cI cS : ClassId) (X : XP) (F : Nat) (h_w h_w_stock h_w_weight h_w_known h_w_found h_wM : Nat) (w_measure : Bool) (w_values : Int32) (w_row : Int32) (w_rowCodes : Int32) (w_table : Int32) (w_length : Int32) (w_full : Int32) (w_pairs : Int32) (w_codes : Int32) (w_stock : Nat → Int32) (w_weight : Nat → Int32) (w_known : Nat → Int32) (w_found : Nat → Int32) (wM_which : Int32) (wM_x : Int32) (wM_y : Int32) (wM_row : Int32) (wM_table : Int32) (a1 : Int32) (a2 : Int32) (a3 : Int32) (a4 : Int32) (a5 : Int32) {res : Int32} (h : f_X4_canGain F w_measure w_row w_rowCodes w_table w_pairs w_codes w_stock w_weight w_found wM_which wM_x wM_y wM_row wM_table a1 a2 a3 a4 a5 = some res) : CtI l D cI cS X yX4_canGain cX4_canGain 8 (some .boolean) 4 [.ref h_w, .int a1, .int a2, .int a3, .int a4, .int a5] [(h_w, .inr (4, [.ref h_w_stock, .ref h_w_weight, .ref h_w_known, .ref h_w_found, nv w_measure h_wM, .int w_values, .int w_row, .int w_rowCodes, .int w_table, .int w_length, .int w_full, .int w_pairs, .int w_codes])), (h_w_stock, .inl (cI, 16, .inl w_stock)), (h_w_weight, .inl (cI, 16, .inl w_weight)), (h_w_known, .inl (cI, 577, .inl w_known)), (h_w_found, .inl (cI, 6347, .inl w_found)), (h_wM, .inr (0, [.int wM_which, .int wM_x, .int wM_y, .int wM_row, .int wM_table]))] (PoI res [(h_w, .inr (4, [.ref h_w_stock, .ref h_w_weight, .ref h_w_known, .ref h_w_found, nv w_measure h_wM, .int w_values, .int w_row, .int w_rowCodes, .int w_table, .int w_length, .int w_full, .int w_pairs, .int w_codes])), (h_w_stock, .inl (cI, 16, .inl w_stock)), (h_w_weight, .inl (cI, 16, .inl w_weight)), (h_w_known, .inl (cI, 577, .inl w_known)), (h_w_found, .inl (cI, 6347, .inl w_found)), (h_wM, .inr (0, [.int wM_which, .int wM_x, .int wM_y, .int wM_row, .int wM_table]))]) := by
  refine CtI.of (by decide +kernel) rfl ?_
  intro p e s m below meth c A hc
  refine G_lv (lv' := [(0, .ref h_w), (1, .int a1), (2, .int a2), (3, .int a3), (4, .int a4), (5, .int a5)]) (lsame_cons rfl (lsame_cons rfl (lsame_cons rfl (lsame_cons rfl (lsame_cons rfl (lsame_cons rfl lsame_nil)))))) ?_
  unfold f_X4_canGain at h
  refine G_aload_n hc dX4_canGain_0 rfl ?_
  refine G_iload_n hc dX4_canGain_1 rfl ?_
  refine G_iload_n hc dX4_canGain_2 rfl ?_
  refine G_iload_n hc dX4_canGain_3 rfl ?_
  refine G_iload hc dX4_canGain_4 rfl ?_
  obtain ⟨z1, hu2, h⟩ := ob h
  refine G_callVI (ws2 := [(h_w, .inr (4, [.ref h_w_stock, .ref h_w_weight, .ref h_w_known, .ref h_w_found, nv w_measure h_wM, .int w_values, .int w_row, .int w_rowCodes, .int w_table, .int w_length, .int w_full, .int w_pairs, .int w_codes])), (h_w_stock, .inl (cI, 16, .inl w_stock)), (h_w_weight, .inl (cI, 16, .inl w_weight)), (h_w_known, .inl (cI, 577, .inl w_known)), (h_w_found, .inl (cI, 6347, .inl w_found)), (h_wM, .inr (0, [.int wM_which, .int wM_x, .int wM_y, .int wM_row, .int wM_table]))]) hc m_X4_119 (c_X4_leftAfter l D cI cS X F h_w h_w_stock h_w_weight h_w_known h_w_found h_wM w_measure w_values w_row w_rowCodes w_table w_length w_full w_pairs w_codes w_stock w_weight w_known w_found wM_which wM_x wM_y wM_row wM_table a1 a2 a3 a4 hu2) 0 [0, 1, 2, 3, 4, 5] rfl rfl (rmok_of (Nat.le_of_ble_eq_true rfl)) ⟨Nat.zero_le _, Nat.zero_le _⟩ rfl rfl rfl rfl rfl ⟨rfl, rfl, rfl⟩ dX4_canGain_6 ?_
  refine G_istore (lv' := [(0, .ref h_w), (1, .int a1), (2, .int a2), (3, .int a3), (4, .int a4), (5, .int a5), (6, .int z1)]) hc dX4_canGain_9 rfl rfl ?_
  refine G_iload hc dX4_canGain_11 rfl ?_
  refine G_aload_n hc dX4_canGain_13 rfl ?_
  refine G_iload_n hc dX4_canGain_14 rfl ?_
  refine G_iload_n hc dX4_canGain_15 rfl ?_
  refine G_iload hc dX4_canGain_16 rfl ?_
  obtain ⟨z3, hu4, h⟩ := ob h
  refine G_callVI (ws2 := [(h_w, .inr (4, [.ref h_w_stock, .ref h_w_weight, .ref h_w_known, .ref h_w_found, nv w_measure h_wM, .int w_values, .int w_row, .int w_rowCodes, .int w_table, .int w_length, .int w_full, .int w_pairs, .int w_codes])), (h_w_stock, .inl (cI, 16, .inl w_stock)), (h_w_weight, .inl (cI, 16, .inl w_weight)), (h_w_known, .inl (cI, 577, .inl w_known)), (h_w_found, .inl (cI, 6347, .inl w_found)), (h_wM, .inr (0, [.int wM_which, .int wM_x, .int wM_y, .int wM_row, .int wM_table]))]) hc m_X4_123 (c_X4_gain l D cI cS X F h_w h_w_stock h_w_weight h_w_known h_w_found h_wM w_measure w_values w_row w_rowCodes w_table w_length w_full w_pairs w_codes w_stock w_weight w_known w_found wM_which wM_x wM_y wM_row wM_table a3 a2 a4 hu4) 0 [0, 1, 2, 3, 4, 5] rfl rfl (rmok_of (Nat.le_of_ble_eq_true rfl)) ⟨Nat.zero_le _, Nat.zero_le _⟩ rfl rfl rfl rfl rfl ⟨rfl, rfl, rfl⟩ dX4_canGain_18 ?_
  refine G_isub hc dX4_canGain_21 ?_
  obtain ⟨v5, e_v5, h⟩ := sb h
  refine G_top e_v5 ?_
  refine G_istore (lv' := [(0, .ref h_w), (1, .int a1), (2, .int a2), (3, .int a3), (4, .int a4), (5, .int a5), (6, .int z1), (7, .int v5)]) hc dX4_canGain_22 rfl rfl ?_
  refine G_iload hc dX4_canGain_24 rfl ?_
  refine G_iconst (v := -1) hc dX4_canGain_26 (by decide) ?_
  obtain ⟨t6, hr8, h⟩ := ob h
  have hj7 : G p l e (rmk 4) s m [.ref h_w, .int a1, .int a2, .int a3, .int a4, .int a5].toArray below meth c D A 8 0 0 (QI below [.ref h_w, .int a1, .int a2, .int a3, .int a4, .int a5].toArray s D A (PoI res [(h_w, .inr (4, [.ref h_w_stock, .ref h_w_weight, .ref h_w_known, .ref h_w_found, nv w_measure h_wM, .int w_values, .int w_row, .int w_rowCodes, .int w_table, .int w_length, .int w_full, .int w_pairs, .int w_codes])), (h_w_stock, .inl (cI, 16, .inl w_stock)), (h_w_weight, .inl (cI, 16, .inl w_weight)), (h_w_known, .inl (cI, 577, .inl w_known)), (h_w_found, .inl (cI, 6347, .inl w_found)), (h_wM, .inr (0, [.int wM_which, .int wM_x, .int wM_y, .int wM_row, .int wM_table]))])) [(h_w, .inr (4, [.ref h_w_stock, .ref h_w_weight, .ref h_w_known, .ref h_w_found, nv w_measure h_wM, .int w_values, .int w_row, .int w_rowCodes, .int w_table, .int w_length, .int w_full, .int w_pairs, .int w_codes])), (h_w_stock, .inl (cI, 16, .inl w_stock)), (h_w_weight, .inl (cI, 16, .inl w_weight)), (h_w_known, .inl (cI, 577, .inl w_known)), (h_w_found, .inl (cI, 6347, .inl w_found)), (h_wM, .inr (0, [.int wM_which, .int wM_x, .int wM_y, .int wM_row, .int wM_table]))] [] 55 [.int t6] := by
    obtain ⟨hz15, h⟩ := zb h
    have h := Option.some.inj h
    subst h
    exact G_zreturn hc hz15 ⟨rfl, rfl⟩ dX4_canGain_55
  clear h
  have h := hr8
  clear hr8
  refine G_icmp_eq (tgt := 54) hc dX4_canGain_27 (by decide) (fun c14 => ?_) (fun c14 => ?_)
  · have h := ip h c14
    refine G_iconst (v := 0) hc dX4_canGain_54 (by decide) ?_
    have h := Option.some.inj h
    subst h
    refine G_lv (lv' := []) lsame_nil ?_
    exact hj7
  · have h := inn h c14
    refine G_aload_n hc dX4_canGain_30 rfl ?_
    refine G_aload_n hc dX4_canGain_31 rfl ?_
    refine G_iload hc dX4_canGain_32 rfl ?_
    refine G_iload hc dX4_canGain_34 rfl ?_
    refine G_iload_n hc dX4_canGain_36 rfl ?_
    refine G_iconst (v := 1) hc dX4_canGain_37 (by decide) ?_
    refine G_iadd hc dX4_canGain_38 ?_
    obtain ⟨z9, hu10, h⟩ := ob h
    refine G_callVI (ws2 := [(h_w, .inr (4, [.ref h_w_stock, .ref h_w_weight, .ref h_w_known, .ref h_w_found, nv w_measure h_wM, .int w_values, .int w_row, .int w_rowCodes, .int w_table, .int w_length, .int w_full, .int w_pairs, .int w_codes])), (h_w_stock, .inl (cI, 16, .inl w_stock)), (h_w_weight, .inl (cI, 16, .inl w_weight)), (h_w_known, .inl (cI, 577, .inl w_known)), (h_w_found, .inl (cI, 6347, .inl w_found)), (h_wM, .inr (0, [.int wM_which, .int wM_x, .int wM_y, .int wM_row, .int wM_table]))]) hc m_X4_105 (c_X4_entryOf l D cI cS X F h_w h_w_stock h_w_weight h_w_known h_w_found h_wM w_measure w_values w_row w_rowCodes w_table w_length w_full w_pairs w_codes w_stock w_weight w_known w_found wM_which wM_x wM_y wM_row wM_table z1 a4 (a3 + (1 : Int32)) hu10) 0 [0, 1, 2, 3, 4, 5] rfl rfl (rmok_of (Nat.le_of_ble_eq_true rfl)) ⟨Nat.zero_le _, Nat.zero_le _⟩ rfl rfl rfl rfl rfl ⟨rfl, rfl, rfl⟩ dX4_canGain_39 ?_
    refine G_iload hc dX4_canGain_42 rfl ?_
    obtain ⟨z11, hu12, h⟩ := ob h
    refine G_callVI (ws2 := [(h_w, .inr (4, [.ref h_w_stock, .ref h_w_weight, .ref h_w_known, .ref h_w_found, nv w_measure h_wM, .int w_values, .int w_row, .int w_rowCodes, .int w_table, .int w_length, .int w_full, .int w_pairs, .int w_codes])), (h_w_stock, .inl (cI, 16, .inl w_stock)), (h_w_weight, .inl (cI, 16, .inl w_weight)), (h_w_known, .inl (cI, 577, .inl w_known)), (h_w_found, .inl (cI, 6347, .inl w_found)), (h_wM, .inr (0, [.int wM_which, .int wM_x, .int wM_y, .int wM_row, .int wM_table]))]) hc m_X4_138 (c_X4_number l D cI cS X F h_w h_w_stock h_w_weight h_w_known h_w_found h_wM w_measure w_values w_row w_rowCodes w_table w_length w_full w_pairs w_codes w_stock w_weight w_known w_found wM_which wM_x wM_y wM_row wM_table z9 v5 hu12) 0 [0, 1, 2, 3, 4, 5] rfl rfl (rmok_of (Nat.le_of_ble_eq_true rfl)) ⟨Nat.zero_le _, Nat.zero_le _⟩ rfl rfl rfl rfl rfl ⟨rfl, rfl, rfl⟩ dX4_canGain_44 ?_
    refine G_if_le (tgt := 54) hc dX4_canGain_47 (by decide) (fun c13 => ?_) (fun c13 => ?_)
    · have h := ip h c13
      refine G_iconst (v := 0) hc dX4_canGain_54 (by decide) ?_
      have h := Option.some.inj h
      subst h
      refine G_lv (lv' := []) lsame_nil ?_
      exact hj7
    · have h := inn h c13
      refine G_iconst (v := 1) hc dX4_canGain_50 (by decide) ?_
      refine G_goto (tgt := 55) hc dX4_canGain_51 (by decide) ?_
      have h := Option.some.inj h
      subst h
      refine G_lv (lv' := []) lsame_nil ?_
      exact hj7
set_option maxHeartbeats 4000000 in
set_option maxRecDepth 100000 in
theorem c_X4_firstPlaceWith (l : Launch) (D : va_G) (cI cS : ClassId) (X : XP) (F : Nat) (h_w h_w_stock h_w_weight h_w_known h_w_found h_wM : Nat) (w_measure : Bool) (w_values : Int32) (w_row : Int32) (w_rowCodes : Int32) (w_table : Int32) (w_length : Int32) (w_full : Int32) (w_pairs : Int32) (w_codes : Int32) (w_stock : Nat → Int32) (w_weight : Nat → Int32) (w_known : Nat → Int32) (w_found : Nat → Int32) (wM_which : Int32) (wM_x : Int32) (wM_y : Int32) (wM_row : Int32) (wM_table : Int32) (a1 : Int32) {res : Int32} (h : f_X4_firstPlaceWith F w_measure w_values w_row w_rowCodes w_table w_length w_full w_pairs w_codes w_stock w_weight w_found wM_which wM_x wM_y wM_row wM_table a1 = some res) : CtI l D cI cS X yX4_firstPlaceWith cX4_firstPlaceWith 8 (some .int) 5 [.ref h_w, .int a1] [(h_w, .inr (4, [.ref h_w_stock, .ref h_w_weight, .ref h_w_known, .ref h_w_found, nv w_measure h_wM, .int w_values, .int w_row, .int w_rowCodes, .int w_table, .int w_length, .int w_full, .int w_pairs, .int w_codes])), (h_w_stock, .inl (cI, 16, .inl w_stock)), (h_w_weight, .inl (cI, 16, .inl w_weight)), (h_w_known, .inl (cI, 577, .inl w_known)), (h_w_found, .inl (cI, 6347, .inl w_found)), (h_wM, .inr (0, [.int wM_which, .int wM_x, .int wM_y, .int wM_row, .int wM_table]))] (PoI res [(h_w, .inr (4, [.ref h_w_stock, .ref h_w_weight, .ref h_w_known, .ref h_w_found, nv w_measure h_wM, .int w_values, .int w_row, .int w_rowCodes, .int w_table, .int w_length, .int w_full, .int w_pairs, .int w_codes])), (h_w_stock, .inl (cI, 16, .inl w_stock)), (h_w_weight, .inl (cI, 16, .inl w_weight)), (h_w_known, .inl (cI, 577, .inl w_known)), (h_w_found, .inl (cI, 6347, .inl w_found)), (h_wM, .inr (0, [.int wM_which, .int wM_x, .int wM_y, .int wM_row, .int wM_table]))]) := by
  refine CtI.of (by decide +kernel) rfl ?_
  intro p e s m below meth c A hc
  refine G_lv (lv' := [(0, .ref h_w), (1, .int a1)]) (lsame_cons rfl (lsame_cons rfl lsame_nil)) ?_
  unfold f_X4_firstPlaceWith at h
  refine G_iconst (v := 0) hc dX4_firstPlaceWith_0 (by decide) ?_
  refine G_istore_n (lv' := [(0, .ref h_w), (1, .int a1), (2, .int (0 : Int32))]) hc dX4_firstPlaceWith_1 rfl rfl ?_
  refine G_iload_n hc dX4_firstPlaceWith_2 rfl ?_
  refine G_istore_n (lv' := [(0, .ref h_w), (1, .int a1), (2, .int (0 : Int32)), (3, .int a1)]) hc dX4_firstPlaceWith_3 rfl rfl ?_
  refine G_aload_n hc dX4_firstPlaceWith_4 rfl ?_
  refine G_get hc f_X4_46 0 rfl rfl dX4_firstPlaceWith_5 ?_
  refine G_istore (lv' := [(0, .ref h_w), (1, .int a1), (2, .int (0 : Int32)), (3, .int a1), (4, .int w_full)]) hc dX4_firstPlaceWith_8 rfl rfl ?_
  refine G_iconst (v := 0) hc dX4_firstPlaceWith_10 (by decide) ?_
  refine G_istore (lv' := [(0, .ref h_w), (1, .int a1), (2, .int (0 : Int32)), (3, .int a1), (4, .int w_full), (5, .int (0 : Int32))]) hc dX4_firstPlaceWith_11 rfl rfl ?_
  refine G_iconst (v := 0) hc dX4_firstPlaceWith_13 (by decide) ?_
  refine G_istore (lv' := [(0, .ref h_w), (1, .int a1), (2, .int (0 : Int32)), (3, .int a1), (4, .int w_full), (5, .int (0 : Int32)), (6, .int (0 : Int32))]) hc dX4_firstPlaceWith_14 rfl rfl ?_
  obtain ⟨e6, hl7, h⟩ := ob h
  have hK11 : G p l e (rmk 5) s m [.ref h_w, .int a1].toArray below meth c D A 8 0 0 (QI below [.ref h_w, .int a1].toArray s D A (PoI res [(h_w, .inr (4, [.ref h_w_stock, .ref h_w_weight, .ref h_w_known, .ref h_w_found, nv w_measure h_wM, .int w_values, .int w_row, .int w_rowCodes, .int w_table, .int w_length, .int w_full, .int w_pairs, .int w_codes])), (h_w_stock, .inl (cI, 16, .inl w_stock)), (h_w_weight, .inl (cI, 16, .inl w_weight)), (h_w_known, .inl (cI, 577, .inl w_known)), (h_w_found, .inl (cI, 6347, .inl w_found)), (h_wM, .inr (0, [.int wM_which, .int wM_x, .int wM_y, .int wM_row, .int wM_table]))])) [(h_w, .inr (4, [.ref h_w_stock, .ref h_w_weight, .ref h_w_known, .ref h_w_found, nv w_measure h_wM, .int w_values, .int w_row, .int w_rowCodes, .int w_table, .int w_length, .int w_full, .int w_pairs, .int w_codes])), (h_w_stock, .inl (cI, 16, .inl w_stock)), (h_w_weight, .inl (cI, 16, .inl w_weight)), (h_w_known, .inl (cI, 577, .inl w_known)), (h_w_found, .inl (cI, 6347, .inl w_found)), (h_wM, .inr (0, [.int wM_which, .int wM_x, .int wM_y, .int wM_row, .int wM_table]))] [(2, .int e6)] 108 [] := by
    refine G_iload_n hc dX4_firstPlaceWith_108 rfl ?_
    have h := Option.some.inj h
    subst h
    exact G_ireturn hc ⟨rfl, rfl⟩ dX4_firstPlaceWith_109
  clear h
  have hL8 : ∀ (n9 : Nat) (u1 : Int32) (u2 : Int32) (u3 : Int32) (u4 : Int32) (u5 : Int32), f_X4_firstPlaceWith_L16 F w_measure w_values w_row w_rowCodes w_table w_length w_pairs w_codes w_stock w_weight w_found wM_which wM_x wM_y wM_row wM_table n9 u1 u2 u3 u4 u5 = some e6 → G p l e (rmk 5) s m [.ref h_w, .int a1].toArray below meth c D A 8 0 0 (QI below [.ref h_w, .int a1].toArray s D A (PoI res [(h_w, .inr (4, [.ref h_w_stock, .ref h_w_weight, .ref h_w_known, .ref h_w_found, nv w_measure h_wM, .int w_values, .int w_row, .int w_rowCodes, .int w_table, .int w_length, .int w_full, .int w_pairs, .int w_codes])), (h_w_stock, .inl (cI, 16, .inl w_stock)), (h_w_weight, .inl (cI, 16, .inl w_weight)), (h_w_known, .inl (cI, 577, .inl w_known)), (h_w_found, .inl (cI, 6347, .inl w_found)), (h_wM, .inr (0, [.int wM_which, .int wM_x, .int wM_y, .int wM_row, .int wM_table]))])) [(h_w, .inr (4, [.ref h_w_stock, .ref h_w_weight, .ref h_w_known, .ref h_w_found, nv w_measure h_wM, .int w_values, .int w_row, .int w_rowCodes, .int w_table, .int w_length, .int w_full, .int w_pairs, .int w_codes])), (h_w_stock, .inl (cI, 16, .inl w_stock)), (h_w_weight, .inl (cI, 16, .inl w_weight)), (h_w_known, .inl (cI, 577, .inl w_known)), (h_w_found, .inl (cI, 6347, .inl w_found)), (h_wM, .inr (0, [.int wM_which, .int wM_x, .int wM_y, .int wM_row, .int wM_table]))] [(0, .ref h_w), (2, .int u1), (3, .int u2), (4, .int u3), (5, .int u4), (6, .int u5)] 16 [] := by
    intro n9
    induction n9 with
    | zero =>
      intro u1 u2 u3 u4 u5 h
      exact nz h
    | succ n9 ih10 =>
      intro u1 u2 u3 u4 u5 h
      rw [f_X4_firstPlaceWith_L16] at h
      refine G_iload hc dX4_firstPlaceWith_16 rfl ?_
      refine G_aload_n hc dX4_firstPlaceWith_18 rfl ?_
      refine G_get hc f_X4_68 0 rfl rfl dX4_firstPlaceWith_19 ?_
      refine G_icmp_ge (tgt := 108) hc dX4_firstPlaceWith_22 (by decide) (fun c34 => ?_) (fun c34 => ?_)
      · have h := ip h c34
        have h := Option.some.inj h
        subst h
        refine G_lv (lv' := [(2, .int u1)]) (lsame_cons rfl lsame_nil) ?_
        exact hK11
      · have h := inn h c34
        refine G_iconst (v := 0) hc dX4_firstPlaceWith_25 (by decide) ?_
        refine G_istore (lv' := [(0, .ref h_w), (2, .int u1), (3, .int u2), (4, .int u3), (5, .int u4), (6, .int u5), (7, .int (0 : Int32))]) hc dX4_firstPlaceWith_26 rfl rfl ?_
        obtain ⟨e14, hl15, h⟩ := ob h
        have hK19 : G p l e (rmk 5) s m [.ref h_w, .int a1].toArray below meth c D A 8 0 0 (QI below [.ref h_w, .int a1].toArray s D A (PoI res [(h_w, .inr (4, [.ref h_w_stock, .ref h_w_weight, .ref h_w_known, .ref h_w_found, nv w_measure h_wM, .int w_values, .int w_row, .int w_rowCodes, .int w_table, .int w_length, .int w_full, .int w_pairs, .int w_codes])), (h_w_stock, .inl (cI, 16, .inl w_stock)), (h_w_weight, .inl (cI, 16, .inl w_weight)), (h_w_known, .inl (cI, 577, .inl w_known)), (h_w_found, .inl (cI, 6347, .inl w_found)), (h_wM, .inr (0, [.int wM_which, .int wM_x, .int wM_y, .int wM_row, .int wM_table]))])) [(h_w, .inr (4, [.ref h_w_stock, .ref h_w_weight, .ref h_w_known, .ref h_w_found, nv w_measure h_wM, .int w_values, .int w_row, .int w_rowCodes, .int w_table, .int w_length, .int w_full, .int w_pairs, .int w_codes])), (h_w_stock, .inl (cI, 16, .inl w_stock)), (h_w_weight, .inl (cI, 16, .inl w_weight)), (h_w_known, .inl (cI, 577, .inl w_known)), (h_w_found, .inl (cI, 6347, .inl w_found)), (h_wM, .inr (0, [.int wM_which, .int wM_x, .int wM_y, .int wM_row, .int wM_table]))] [(0, .ref h_w), (2, .int e14.1), (3, .int u2), (4, .int u3), (5, .int u4), (6, .int u5), (7, .int e14.2)] 71 [] := by
          refine G_iload_n hc dX4_firstPlaceWith_71 rfl ?_
          refine G_aload_n hc dX4_firstPlaceWith_72 rfl ?_
          refine G_iload hc dX4_firstPlaceWith_73 rfl ?_
          refine G_iload hc dX4_firstPlaceWith_75 rfl ?_
          refine G_iload hc dX4_firstPlaceWith_77 rfl ?_
          obtain ⟨z28, hu29, h⟩ := ob h
          refine G_callVI (ws2 := [(h_w, .inr (4, [.ref h_w_stock, .ref h_w_weight, .ref h_w_known, .ref h_w_found, nv w_measure h_wM, .int w_values, .int w_row, .int w_rowCodes, .int w_table, .int w_length, .int w_full, .int w_pairs, .int w_codes])), (h_w_stock, .inl (cI, 16, .inl w_stock)), (h_w_weight, .inl (cI, 16, .inl w_weight)), (h_w_known, .inl (cI, 577, .inl w_known)), (h_w_found, .inl (cI, 6347, .inl w_found)), (h_wM, .inr (0, [.int wM_which, .int wM_x, .int wM_y, .int wM_row, .int wM_table]))]) hc m_X4_123 (c_X4_gain l D cI cS X F h_w h_w_stock h_w_weight h_w_known h_w_found h_wM w_measure w_values w_row w_rowCodes w_table w_length w_full w_pairs w_codes w_stock w_weight w_known w_found wM_which wM_x wM_y wM_row wM_table u5 u4 e14.2 hu29) 0 [0, 1, 2, 3, 4, 5] rfl rfl (rmok_of (Nat.le_of_ble_eq_true rfl)) ⟨Nat.zero_le _, Nat.zero_le _⟩ rfl rfl rfl rfl rfl ⟨rfl, rfl, rfl⟩ dX4_firstPlaceWith_79 ?_
          refine G_isub hc dX4_firstPlaceWith_82 ?_
          obtain ⟨v30, e_v30, h⟩ := sb h
          refine G_top e_v30 ?_
          refine G_istore_n (lv' := [(0, .ref h_w), (2, .int e14.1), (3, .int v30), (4, .int u3), (5, .int u4), (6, .int u5), (7, .int e14.2)]) hc dX4_firstPlaceWith_83 rfl rfl ?_
          refine G_aload_n hc dX4_firstPlaceWith_84 rfl ?_
          refine G_iload hc dX4_firstPlaceWith_85 rfl ?_
          refine G_iload hc dX4_firstPlaceWith_87 rfl ?_
          refine G_iload hc dX4_firstPlaceWith_89 rfl ?_
          refine G_iload hc dX4_firstPlaceWith_91 rfl ?_
          obtain ⟨z31, hu32, h⟩ := ob h
          refine G_callVI (ws2 := [(h_w, .inr (4, [.ref h_w_stock, .ref h_w_weight, .ref h_w_known, .ref h_w_found, nv w_measure h_wM, .int w_values, .int w_row, .int w_rowCodes, .int w_table, .int w_length, .int w_full, .int w_pairs, .int w_codes])), (h_w_stock, .inl (cI, 16, .inl w_stock)), (h_w_weight, .inl (cI, 16, .inl w_weight)), (h_w_known, .inl (cI, 577, .inl w_known)), (h_w_found, .inl (cI, 6347, .inl w_found)), (h_wM, .inr (0, [.int wM_which, .int wM_x, .int wM_y, .int wM_row, .int wM_table]))]) hc m_X4_119 (c_X4_leftAfter l D cI cS X F h_w h_w_stock h_w_weight h_w_known h_w_found h_wM w_measure w_values w_row w_rowCodes w_table w_length w_full w_pairs w_codes w_stock w_weight w_known w_found wM_which wM_x wM_y wM_row wM_table u3 u4 u5 e14.2 hu32) 0 [0, 1, 2, 3, 4, 5] rfl rfl (rmok_of (Nat.le_of_ble_eq_true rfl)) ⟨Nat.zero_le _, Nat.zero_le _⟩ rfl rfl rfl rfl rfl ⟨rfl, rfl, rfl⟩ dX4_firstPlaceWith_93 ?_
          refine G_istore (lv' := [(0, .ref h_w), (2, .int e14.1), (3, .int v30), (4, .int z31), (5, .int u4), (6, .int u5), (7, .int e14.2)]) hc dX4_firstPlaceWith_96 rfl rfl ?_
          refine G_iload hc dX4_firstPlaceWith_98 rfl ?_
          refine G_istore (lv' := [(0, .ref h_w), (2, .int e14.1), (3, .int v30), (4, .int z31), (5, .int e14.2), (6, .int u5), (7, .int e14.2)]) hc dX4_firstPlaceWith_100 rfl rfl ?_
          obtain ⟨v33, e_v33, h⟩ := sb h
          refine G_iinc (v := v33) (lv' := [(0, .ref h_w), (2, .int e14.1), (3, .int v30), (4, .int z31), (5, .int e14.2), (6, .int v33), (7, .int e14.2)]) hc dX4_firstPlaceWith_102 rfl (e_v33.trans rfl) rfl rfl ?_
          refine G_goto (tgt := 16) hc dX4_firstPlaceWith_105 (by decide) ?_
          refine G_lv (lv' := [(0, .ref h_w), (2, .int e14.1), (3, .int v30), (4, .int z31), (5, .int e14.2), (6, .int v33)]) (lsame_cons rfl (lsame_cons rfl (lsame_cons rfl (lsame_cons rfl (lsame_cons rfl (lsame_cons rfl lsame_nil)))))) ?_
          exact ih10 _ _ _ _ _ h
        clear h
        have hL16 : ∀ (n17 : Nat) (u12 : Int32) (u13 : Int32), f_X4_firstPlaceWith_L28 F w_measure w_values w_row w_rowCodes w_table w_pairs w_codes w_stock w_weight w_found wM_which wM_x wM_y wM_row wM_table u2 u3 u4 u5 n17 u12 u13 = some e14 → G p l e (rmk 5) s m [.ref h_w, .int a1].toArray below meth c D A 8 0 0 (QI below [.ref h_w, .int a1].toArray s D A (PoI res [(h_w, .inr (4, [.ref h_w_stock, .ref h_w_weight, .ref h_w_known, .ref h_w_found, nv w_measure h_wM, .int w_values, .int w_row, .int w_rowCodes, .int w_table, .int w_length, .int w_full, .int w_pairs, .int w_codes])), (h_w_stock, .inl (cI, 16, .inl w_stock)), (h_w_weight, .inl (cI, 16, .inl w_weight)), (h_w_known, .inl (cI, 577, .inl w_known)), (h_w_found, .inl (cI, 6347, .inl w_found)), (h_wM, .inr (0, [.int wM_which, .int wM_x, .int wM_y, .int wM_row, .int wM_table]))])) [(h_w, .inr (4, [.ref h_w_stock, .ref h_w_weight, .ref h_w_known, .ref h_w_found, nv w_measure h_wM, .int w_values, .int w_row, .int w_rowCodes, .int w_table, .int w_length, .int w_full, .int w_pairs, .int w_codes])), (h_w_stock, .inl (cI, 16, .inl w_stock)), (h_w_weight, .inl (cI, 16, .inl w_weight)), (h_w_known, .inl (cI, 577, .inl w_known)), (h_w_found, .inl (cI, 6347, .inl w_found)), (h_wM, .inr (0, [.int wM_which, .int wM_x, .int wM_y, .int wM_row, .int wM_table]))] [(0, .ref h_w), (2, .int u12), (3, .int u2), (4, .int u3), (5, .int u4), (6, .int u5), (7, .int u13)] 28 [] := by
          intro n17
          induction n17 with
          | zero =>
            intro u12 u13 h
            exact nz h
          | succ n17 ih18 =>
            intro u12 u13 h
            rw [f_X4_firstPlaceWith_L28] at h
            refine G_iload hc dX4_firstPlaceWith_28 rfl ?_
            refine G_iconst (v := 3) hc dX4_firstPlaceWith_30 (by decide) ?_
            refine G_icmp_ge (tgt := 71) hc dX4_firstPlaceWith_31 (by decide) (fun c27 => ?_) (fun c27 => ?_)
            · have h := ip h c27
              have h := Option.some.inj h
              subst h
              refine G_lv (lv' := [(0, .ref h_w), (2, .int u12), (3, .int u2), (4, .int u3), (5, .int u4), (6, .int u5), (7, .int u13)]) (lsame_cons rfl (lsame_cons rfl (lsame_cons rfl (lsame_cons rfl (lsame_cons rfl (lsame_cons rfl (lsame_cons rfl lsame_nil))))))) ?_
              exact hK19
            · have h := inn h c27
              refine G_aload_n hc dX4_firstPlaceWith_34 rfl ?_
              refine G_iload hc dX4_firstPlaceWith_35 rfl ?_
              refine G_iload hc dX4_firstPlaceWith_37 rfl ?_
              refine G_iload hc dX4_firstPlaceWith_39 rfl ?_
              refine G_iload hc dX4_firstPlaceWith_41 rfl ?_
              refine G_iload_n hc dX4_firstPlaceWith_43 rfl ?_
              obtain ⟨z20, hu21, h⟩ := ob h
              refine G_callVI (ws2 := [(h_w, .inr (4, [.ref h_w_stock, .ref h_w_weight, .ref h_w_known, .ref h_w_found, nv w_measure h_wM, .int w_values, .int w_row, .int w_rowCodes, .int w_table, .int w_length, .int w_full, .int w_pairs, .int w_codes])), (h_w_stock, .inl (cI, 16, .inl w_stock)), (h_w_weight, .inl (cI, 16, .inl w_weight)), (h_w_known, .inl (cI, 577, .inl w_known)), (h_w_found, .inl (cI, 6347, .inl w_found)), (h_wM, .inr (0, [.int wM_which, .int wM_x, .int wM_y, .int wM_row, .int wM_table]))]) hc m_X4_147 (c_X4_canGain l D cI cS X F h_w h_w_stock h_w_weight h_w_known h_w_found h_wM w_measure w_values w_row w_rowCodes w_table w_length w_full w_pairs w_codes w_stock w_weight w_known w_found wM_which wM_x wM_y wM_row wM_table u3 u4 u5 u13 u2 hu21) 0 [0, 1, 2, 3, 4, 5] rfl rfl (rmok_of (Nat.le_of_ble_eq_true rfl)) ⟨Nat.zero_le _, Nat.zero_le _⟩ rfl rfl rfl rfl rfl ⟨rfl, rfl, rfl⟩ dX4_firstPlaceWith_44 ?_
              refine G_if_ne (tgt := 71) hc dX4_firstPlaceWith_47 (by decide) (fun c26 => ?_) (fun c26 => ?_)
              · have h := inn h c26
                have h := Option.some.inj h
                subst h
                refine G_lv (lv' := [(0, .ref h_w), (2, .int u12), (3, .int u2), (4, .int u3), (5, .int u4), (6, .int u5), (7, .int u13)]) (lsame_cons rfl (lsame_cons rfl (lsame_cons rfl (lsame_cons rfl (lsame_cons rfl (lsame_cons rfl (lsame_cons rfl lsame_nil))))))) ?_
                exact hK19
              · have h := ip h c26
                refine G_iload_n hc dX4_firstPlaceWith_50 rfl ?_
                refine G_aload_n hc dX4_firstPlaceWith_51 rfl ?_
                refine G_iload hc dX4_firstPlaceWith_52 rfl ?_
                refine G_iload hc dX4_firstPlaceWith_54 rfl ?_
                refine G_iload hc dX4_firstPlaceWith_56 rfl ?_
                refine G_iload hc dX4_firstPlaceWith_58 rfl ?_
                obtain ⟨z22, hu23, h⟩ := ob h
                refine G_callVI (ws2 := [(h_w, .inr (4, [.ref h_w_stock, .ref h_w_weight, .ref h_w_known, .ref h_w_found, nv w_measure h_wM, .int w_values, .int w_row, .int w_rowCodes, .int w_table, .int w_length, .int w_full, .int w_pairs, .int w_codes])), (h_w_stock, .inl (cI, 16, .inl w_stock)), (h_w_weight, .inl (cI, 16, .inl w_weight)), (h_w_known, .inl (cI, 577, .inl w_known)), (h_w_found, .inl (cI, 6347, .inl w_found)), (h_wM, .inr (0, [.int wM_which, .int wM_x, .int wM_y, .int wM_row, .int wM_table]))]) hc m_X4_144 (c_X4_continued l D cI cS X F h_w h_w_stock h_w_weight h_w_known h_w_found h_wM w_measure w_values w_row w_rowCodes w_table w_length w_full w_pairs w_codes w_stock w_weight w_known w_found wM_which wM_x wM_y wM_row wM_table u3 u4 u5 u13 hu23) 0 [0, 1, 2, 3, 4, 5] rfl rfl (rmok_of (Nat.le_of_ble_eq_true rfl)) ⟨Nat.zero_le _, Nat.zero_le _⟩ rfl rfl rfl rfl rfl ⟨rfl, rfl, rfl⟩ dX4_firstPlaceWith_60 ?_
                refine G_iadd hc dX4_firstPlaceWith_63 ?_
                obtain ⟨v24, e_v24, h⟩ := sb h
                refine G_top e_v24 ?_
                refine G_istore_n (lv' := [(0, .ref h_w), (2, .int v24), (3, .int u2), (4, .int u3), (5, .int u4), (6, .int u5), (7, .int u13)]) hc dX4_firstPlaceWith_64 rfl rfl ?_
                obtain ⟨v25, e_v25, h⟩ := sb h
                refine G_iinc (v := v25) (lv' := [(0, .ref h_w), (2, .int v24), (3, .int u2), (4, .int u3), (5, .int u4), (6, .int u5), (7, .int v25)]) hc dX4_firstPlaceWith_65 rfl (e_v25.trans rfl) rfl rfl ?_
                refine G_goto (tgt := 28) hc dX4_firstPlaceWith_68 (by decide) ?_
                refine G_lv (lv' := [(0, .ref h_w), (2, .int v24), (3, .int u2), (4, .int u3), (5, .int u4), (6, .int u5), (7, .int v25)]) (lsame_cons rfl (lsame_cons rfl (lsame_cons rfl (lsame_cons rfl (lsame_cons rfl (lsame_cons rfl (lsame_cons rfl lsame_nil))))))) ?_
                exact ih18 _ _ h
        refine G_lv (lv' := [(0, .ref h_w), (2, .int u1), (3, .int u2), (4, .int u3), (5, .int u4), (6, .int u5), (7, .int (0 : Int32))]) (lsame_cons rfl (lsame_cons rfl (lsame_cons rfl (lsame_cons rfl (lsame_cons rfl (lsame_cons rfl (lsame_cons rfl lsame_nil))))))) ?_
        exact hL16 F _ _ hl15
  refine G_lv (lv' := [(0, .ref h_w), (2, .int (0 : Int32)), (3, .int a1), (4, .int w_full), (5, .int (0 : Int32)), (6, .int (0 : Int32))]) (lsame_cons rfl (lsame_cons rfl (lsame_cons rfl (lsame_cons rfl (lsame_cons rfl (lsame_cons rfl lsame_nil)))))) ?_
  exact hL8 F _ _ _ _ _ hl7
set_option maxHeartbeats 4000000 in
set_option maxRecDepth 100000 in
theorem c_X5_surprise (l : Launch) (D : va_G) (cI cS : ClassId) (X : XP) (F : Nat) (h_x h_x_now h_x_now_book h_x_text h_x_text_signs h_x_trial h_x_trial_state h_x_trial_state_book h_x_ways h_x_ways_stock h_x_ways_weight h_x_ways_known h_x_ways_found h_x_measured h_x_pairCounts h_past : Nat) (x_pastStates : Int32) (x_now_row : Int32) (x_now_table : Int32) (x_now_kept : Int32) (x_now_book : Nat → Int32) (x_text_length : Int32) (x_text_word : Int32) (x_text_kind : Int32) (x_text_number : Int32) (x_text_row : Int32) (x_text_reached : Int32) (x_text_broken : Int32) (x_text_signs : Nat → Int32) (x_trial_orders : Int32) (x_trial_position : Int32) (x_trial_reason : Int32) (x_trial_cause : Int32) (x_trial_state_row : Int32) (x_trial_state_table : Int32) (x_trial_state_kept : Int32) (x_trial_state_book : Nat → Int32) (x_ways_measure : Bool) (x_ways_values : Int32) (x_ways_row : Int32) (x_ways_rowCodes : Int32) (x_ways_table : Int32) (x_ways_length : Int32) (x_ways_full : Int32) (x_ways_pairs : Int32) (x_ways_codes : Int32) (x_ways_stock : Nat → Int32) (x_ways_weight : Nat → Int32) (x_ways_known : Nat → Int32) (x_ways_found : Nat → Int32) (x_measured_which : Int32) (x_measured_x : Int32) (x_measured_y : Int32) (x_measured_row : Int32) (x_measured_table : Int32) (x_pairCounts : Nat → Int32) (a1 : Int32) (a2 : Int32) (a3 : Int32) (a4 : Int32) (a5 : Int32) {res : Int32 × Bool × Int32 × Int32 × Int32 × Int32 × Int32 × Int32 × Int32 × Int32 × (Nat → Int32) × (Nat → Int32) × (Nat → Int32) × (Nat → Int32) × Int32 × Int32 × Int32 × Int32 × Int32} (h : f_X5_surprise F x_now_row x_now_table x_ways_measure x_ways_values x_ways_row x_ways_rowCodes x_ways_table x_ways_length x_ways_full x_ways_pairs x_ways_codes x_ways_stock x_ways_weight x_ways_known x_ways_found x_measured_which x_measured_x x_measured_y x_measured_row x_measured_table a1 a2 a3 a4 a5 = some res) : CtI l D cI cS X yX5_surprise cX5_surprise 6 (some .int) 18 [.ref h_x, .int a1, .int a2, .int a3, .int a4, .int a5] [(h_x, .inr (5, [.ref h_x_now, .ref h_past, .int x_pastStates, .ref h_x_text, .ref h_x_trial, .ref h_x_ways, .ref h_x_measured, .ref h_x_pairCounts])), (h_x_now, .inr (1, [.int x_now_row, .int x_now_table, .int x_now_kept, .ref h_x_now_book])), (h_x_now_book, .inl (cI, 8, .inl x_now_book)), (h_x_text, .inr (2, [.ref h_x_text_signs, .int x_text_length, .int x_text_word, .int x_text_kind, .int x_text_number, .int x_text_row, .int x_text_reached, .int x_text_broken])), (h_x_text_signs, .inl (cI, 60, .inl x_text_signs)), (h_x_trial, .inr (3, [.ref h_x_trial_state, .int x_trial_orders, .int x_trial_position, .int x_trial_reason, .int x_trial_cause])), (h_x_trial_state, .inr (1, [.int x_trial_state_row, .int x_trial_state_table, .int x_trial_state_kept, .ref h_x_trial_state_book])), (h_x_trial_state_book, .inl (cI, 8, .inl x_trial_state_book)), (h_x_ways, .inr (4, [.ref h_x_ways_stock, .ref h_x_ways_weight, .ref h_x_ways_known, .ref h_x_ways_found, nv x_ways_measure h_x_measured, .int x_ways_values, .int x_ways_row, .int x_ways_rowCodes, .int x_ways_table, .int x_ways_length, .int x_ways_full, .int x_ways_pairs, .int x_ways_codes])), (h_x_ways_stock, .inl (cI, 16, .inl x_ways_stock)), (h_x_ways_weight, .inl (cI, 16, .inl x_ways_weight)), (h_x_ways_known, .inl (cI, 577, .inl x_ways_known)), (h_x_ways_found, .inl (cI, 6347, .inl x_ways_found)), (h_x_measured, .inr (0, [.int x_measured_which, .int x_measured_x, .int x_measured_y, .int x_measured_row, .int x_measured_table])), (h_x_pairCounts, .inl (cI, 16, .inl x_pairCounts))] (PoI res.1 [(h_x, .inr (5, [.ref h_x_now, .ref h_past, .int x_pastStates, .ref h_x_text, .ref h_x_trial, .ref h_x_ways, .ref h_x_measured, .ref h_x_pairCounts])), (h_x_now, .inr (1, [.int x_now_row, .int x_now_table, .int x_now_kept, .ref h_x_now_book])), (h_x_now_book, .inl (cI, 8, .inl x_now_book)), (h_x_text, .inr (2, [.ref h_x_text_signs, .int x_text_length, .int x_text_word, .int x_text_kind, .int x_text_number, .int x_text_row, .int x_text_reached, .int x_text_broken])), (h_x_text_signs, .inl (cI, 60, .inl x_text_signs)), (h_x_trial, .inr (3, [.ref h_x_trial_state, .int x_trial_orders, .int x_trial_position, .int x_trial_reason, .int x_trial_cause])), (h_x_trial_state, .inr (1, [.int x_trial_state_row, .int x_trial_state_table, .int x_trial_state_kept, .ref h_x_trial_state_book])), (h_x_trial_state_book, .inl (cI, 8, .inl x_trial_state_book)), (h_x_ways, .inr (4, [.ref h_x_ways_stock, .ref h_x_ways_weight, .ref h_x_ways_known, .ref h_x_ways_found, nv res.2.1 h_x_measured, .int res.2.2.1, .int res.2.2.2.1, .int res.2.2.2.2.1, .int res.2.2.2.2.2.1, .int res.2.2.2.2.2.2.1, .int res.2.2.2.2.2.2.2.1, .int res.2.2.2.2.2.2.2.2.1, .int res.2.2.2.2.2.2.2.2.2.1])), (h_x_ways_stock, .inl (cI, 16, .inl res.2.2.2.2.2.2.2.2.2.2.1)), (h_x_ways_weight, .inl (cI, 16, .inl res.2.2.2.2.2.2.2.2.2.2.2.1)), (h_x_ways_known, .inl (cI, 577, .inl res.2.2.2.2.2.2.2.2.2.2.2.2.1)), (h_x_ways_found, .inl (cI, 6347, .inl res.2.2.2.2.2.2.2.2.2.2.2.2.2.1)), (h_x_measured, .inr (0, [.int res.2.2.2.2.2.2.2.2.2.2.2.2.2.2.1, .int res.2.2.2.2.2.2.2.2.2.2.2.2.2.2.2.1, .int res.2.2.2.2.2.2.2.2.2.2.2.2.2.2.2.2.1, .int res.2.2.2.2.2.2.2.2.2.2.2.2.2.2.2.2.2.1, .int res.2.2.2.2.2.2.2.2.2.2.2.2.2.2.2.2.2.2])), (h_x_pairCounts, .inl (cI, 16, .inl x_pairCounts))]) := by
  refine CtI.of (by decide +kernel) rfl ?_
  intro p e s m below meth c A hc
  refine G_lv (lv' := [(0, .ref h_x), (1, .int a1), (2, .int a2), (3, .int a3), (4, .int a4), (5, .int a5)]) (lsame_cons rfl (lsame_cons rfl (lsame_cons rfl (lsame_cons rfl (lsame_cons rfl (lsame_cons rfl lsame_nil)))))) ?_
  unfold f_X5_surprise at h
  refine G_iload_n hc dX5_surprise_0 rfl ?_
  refine G_iconst (v := 3) hc dX5_surprise_1 (by decide) ?_
  obtain ⟨z1, hu2, h⟩ := ob h
  refine G_callSI (ws2 := [(h_x, .inr (5, [.ref h_x_now, .ref h_past, .int x_pastStates, .ref h_x_text, .ref h_x_trial, .ref h_x_ways, .ref h_x_measured, .ref h_x_pairCounts])), (h_x_now, .inr (1, [.int x_now_row, .int x_now_table, .int x_now_kept, .ref h_x_now_book])), (h_x_now_book, .inl (cI, 8, .inl x_now_book)), (h_x_text, .inr (2, [.ref h_x_text_signs, .int x_text_length, .int x_text_word, .int x_text_kind, .int x_text_number, .int x_text_row, .int x_text_reached, .int x_text_broken])), (h_x_text_signs, .inl (cI, 60, .inl x_text_signs)), (h_x_trial, .inr (3, [.ref h_x_trial_state, .int x_trial_orders, .int x_trial_position, .int x_trial_reason, .int x_trial_cause])), (h_x_trial_state, .inr (1, [.int x_trial_state_row, .int x_trial_state_table, .int x_trial_state_kept, .ref h_x_trial_state_book])), (h_x_trial_state_book, .inl (cI, 8, .inl x_trial_state_book)), (h_x_ways, .inr (4, [.ref h_x_ways_stock, .ref h_x_ways_weight, .ref h_x_ways_known, .ref h_x_ways_found, nv x_ways_measure h_x_measured, .int x_ways_values, .int x_ways_row, .int x_ways_rowCodes, .int x_ways_table, .int x_ways_length, .int x_ways_full, .int x_ways_pairs, .int x_ways_codes])), (h_x_ways_stock, .inl (cI, 16, .inl x_ways_stock)), (h_x_ways_weight, .inl (cI, 16, .inl x_ways_weight)), (h_x_ways_known, .inl (cI, 577, .inl x_ways_known)), (h_x_ways_found, .inl (cI, 6347, .inl x_ways_found)), (h_x_measured, .inr (0, [.int x_measured_which, .int x_measured_x, .int x_measured_y, .int x_measured_row, .int x_measured_table])), (h_x_pairCounts, .inl (cI, 16, .inl x_pairCounts))]) hc m_X5_52 (c_X5_within l D cI cS X F a1 (3 : Int32) hu2) [] (rmok_of (Nat.le_of_ble_eq_true rfl)) ⟨Nat.zero_le _, Nat.zero_le _⟩ rfl rfl rfl rfl rfl ⟨rfl, rfl, rfl⟩ dX5_surprise_2 ?_
  refine G_if_eq (tgt := 42) hc dX5_surprise_5 (by decide) (fun c37 => ?_) (fun c37 => ?_)
  · have h := ip h c37
    refine G_ldc (v := -1000001) hc k_X5_56 dX5_surprise_42 ?_
    have h := Option.some.inj h
    subst h
    exact G_ireturn hc ⟨rfl, rfl⟩ dX5_surprise_44
  · have h := inn h c37
    refine G_iload_n hc dX5_surprise_8 rfl ?_
    refine G_iconst (v := 3) hc dX5_surprise_9 (by decide) ?_
    obtain ⟨z3, hu4, h⟩ := ob h
    refine G_callSI (ws2 := [(h_x, .inr (5, [.ref h_x_now, .ref h_past, .int x_pastStates, .ref h_x_text, .ref h_x_trial, .ref h_x_ways, .ref h_x_measured, .ref h_x_pairCounts])), (h_x_now, .inr (1, [.int x_now_row, .int x_now_table, .int x_now_kept, .ref h_x_now_book])), (h_x_now_book, .inl (cI, 8, .inl x_now_book)), (h_x_text, .inr (2, [.ref h_x_text_signs, .int x_text_length, .int x_text_word, .int x_text_kind, .int x_text_number, .int x_text_row, .int x_text_reached, .int x_text_broken])), (h_x_text_signs, .inl (cI, 60, .inl x_text_signs)), (h_x_trial, .inr (3, [.ref h_x_trial_state, .int x_trial_orders, .int x_trial_position, .int x_trial_reason, .int x_trial_cause])), (h_x_trial_state, .inr (1, [.int x_trial_state_row, .int x_trial_state_table, .int x_trial_state_kept, .ref h_x_trial_state_book])), (h_x_trial_state_book, .inl (cI, 8, .inl x_trial_state_book)), (h_x_ways, .inr (4, [.ref h_x_ways_stock, .ref h_x_ways_weight, .ref h_x_ways_known, .ref h_x_ways_found, nv x_ways_measure h_x_measured, .int x_ways_values, .int x_ways_row, .int x_ways_rowCodes, .int x_ways_table, .int x_ways_length, .int x_ways_full, .int x_ways_pairs, .int x_ways_codes])), (h_x_ways_stock, .inl (cI, 16, .inl x_ways_stock)), (h_x_ways_weight, .inl (cI, 16, .inl x_ways_weight)), (h_x_ways_known, .inl (cI, 577, .inl x_ways_known)), (h_x_ways_found, .inl (cI, 6347, .inl x_ways_found)), (h_x_measured, .inr (0, [.int x_measured_which, .int x_measured_x, .int x_measured_y, .int x_measured_row, .int x_measured_table])), (h_x_pairCounts, .inl (cI, 16, .inl x_pairCounts))]) hc m_X5_52 (c_X5_within l D cI cS X F a2 (3 : Int32) hu4) [] (rmok_of (Nat.le_of_ble_eq_true rfl)) ⟨Nat.zero_le _, Nat.zero_le _⟩ rfl rfl rfl rfl rfl ⟨rfl, rfl, rfl⟩ dX5_surprise_10 ?_
    refine G_if_eq (tgt := 42) hc dX5_surprise_13 (by decide) (fun c36 => ?_) (fun c36 => ?_)
    · have h := ip h c36
      refine G_ldc (v := -1000001) hc k_X5_56 dX5_surprise_42 ?_
      have h := Option.some.inj h
      subst h
      exact G_ireturn hc ⟨rfl, rfl⟩ dX5_surprise_44
    · have h := inn h c36
      refine G_iload_n hc dX5_surprise_16 rfl ?_
      refine G_iconst (v := 3) hc dX5_surprise_17 (by decide) ?_
      obtain ⟨z5, hu6, h⟩ := ob h
      refine G_callSI (ws2 := [(h_x, .inr (5, [.ref h_x_now, .ref h_past, .int x_pastStates, .ref h_x_text, .ref h_x_trial, .ref h_x_ways, .ref h_x_measured, .ref h_x_pairCounts])), (h_x_now, .inr (1, [.int x_now_row, .int x_now_table, .int x_now_kept, .ref h_x_now_book])), (h_x_now_book, .inl (cI, 8, .inl x_now_book)), (h_x_text, .inr (2, [.ref h_x_text_signs, .int x_text_length, .int x_text_word, .int x_text_kind, .int x_text_number, .int x_text_row, .int x_text_reached, .int x_text_broken])), (h_x_text_signs, .inl (cI, 60, .inl x_text_signs)), (h_x_trial, .inr (3, [.ref h_x_trial_state, .int x_trial_orders, .int x_trial_position, .int x_trial_reason, .int x_trial_cause])), (h_x_trial_state, .inr (1, [.int x_trial_state_row, .int x_trial_state_table, .int x_trial_state_kept, .ref h_x_trial_state_book])), (h_x_trial_state_book, .inl (cI, 8, .inl x_trial_state_book)), (h_x_ways, .inr (4, [.ref h_x_ways_stock, .ref h_x_ways_weight, .ref h_x_ways_known, .ref h_x_ways_found, nv x_ways_measure h_x_measured, .int x_ways_values, .int x_ways_row, .int x_ways_rowCodes, .int x_ways_table, .int x_ways_length, .int x_ways_full, .int x_ways_pairs, .int x_ways_codes])), (h_x_ways_stock, .inl (cI, 16, .inl x_ways_stock)), (h_x_ways_weight, .inl (cI, 16, .inl x_ways_weight)), (h_x_ways_known, .inl (cI, 577, .inl x_ways_known)), (h_x_ways_found, .inl (cI, 6347, .inl x_ways_found)), (h_x_measured, .inr (0, [.int x_measured_which, .int x_measured_x, .int x_measured_y, .int x_measured_row, .int x_measured_table])), (h_x_pairCounts, .inl (cI, 16, .inl x_pairCounts))]) hc m_X5_52 (c_X5_within l D cI cS X F a3 (3 : Int32) hu6) [] (rmok_of (Nat.le_of_ble_eq_true rfl)) ⟨Nat.zero_le _, Nat.zero_le _⟩ rfl rfl rfl rfl rfl ⟨rfl, rfl, rfl⟩ dX5_surprise_18 ?_
      refine G_if_eq (tgt := 42) hc dX5_surprise_21 (by decide) (fun c35 => ?_) (fun c35 => ?_)
      · have h := ip h c35
        refine G_ldc (v := -1000001) hc k_X5_56 dX5_surprise_42 ?_
        have h := Option.some.inj h
        subst h
        exact G_ireturn hc ⟨rfl, rfl⟩ dX5_surprise_44
      · have h := inn h c35
        refine G_iload hc dX5_surprise_24 rfl ?_
        refine G_iconst (v := 3) hc dX5_surprise_26 (by decide) ?_
        obtain ⟨z7, hu8, h⟩ := ob h
        refine G_callSI (ws2 := [(h_x, .inr (5, [.ref h_x_now, .ref h_past, .int x_pastStates, .ref h_x_text, .ref h_x_trial, .ref h_x_ways, .ref h_x_measured, .ref h_x_pairCounts])), (h_x_now, .inr (1, [.int x_now_row, .int x_now_table, .int x_now_kept, .ref h_x_now_book])), (h_x_now_book, .inl (cI, 8, .inl x_now_book)), (h_x_text, .inr (2, [.ref h_x_text_signs, .int x_text_length, .int x_text_word, .int x_text_kind, .int x_text_number, .int x_text_row, .int x_text_reached, .int x_text_broken])), (h_x_text_signs, .inl (cI, 60, .inl x_text_signs)), (h_x_trial, .inr (3, [.ref h_x_trial_state, .int x_trial_orders, .int x_trial_position, .int x_trial_reason, .int x_trial_cause])), (h_x_trial_state, .inr (1, [.int x_trial_state_row, .int x_trial_state_table, .int x_trial_state_kept, .ref h_x_trial_state_book])), (h_x_trial_state_book, .inl (cI, 8, .inl x_trial_state_book)), (h_x_ways, .inr (4, [.ref h_x_ways_stock, .ref h_x_ways_weight, .ref h_x_ways_known, .ref h_x_ways_found, nv x_ways_measure h_x_measured, .int x_ways_values, .int x_ways_row, .int x_ways_rowCodes, .int x_ways_table, .int x_ways_length, .int x_ways_full, .int x_ways_pairs, .int x_ways_codes])), (h_x_ways_stock, .inl (cI, 16, .inl x_ways_stock)), (h_x_ways_weight, .inl (cI, 16, .inl x_ways_weight)), (h_x_ways_known, .inl (cI, 577, .inl x_ways_known)), (h_x_ways_found, .inl (cI, 6347, .inl x_ways_found)), (h_x_measured, .inr (0, [.int x_measured_which, .int x_measured_x, .int x_measured_y, .int x_measured_row, .int x_measured_table])), (h_x_pairCounts, .inl (cI, 16, .inl x_pairCounts))]) hc m_X5_52 (c_X5_within l D cI cS X F a4 (3 : Int32) hu8) [] (rmok_of (Nat.le_of_ble_eq_true rfl)) ⟨Nat.zero_le _, Nat.zero_le _⟩ rfl rfl rfl rfl rfl ⟨rfl, rfl, rfl⟩ dX5_surprise_27 ?_
        refine G_if_eq (tgt := 42) hc dX5_surprise_30 (by decide) (fun c34 => ?_) (fun c34 => ?_)
        · have h := ip h c34
          refine G_ldc (v := -1000001) hc k_X5_56 dX5_surprise_42 ?_
          have h := Option.some.inj h
          subst h
          exact G_ireturn hc ⟨rfl, rfl⟩ dX5_surprise_44
        · have h := inn h c34
          refine G_iload hc dX5_surprise_33 rfl ?_
          refine G_iconst (v := 4) hc dX5_surprise_35 (by decide) ?_
          obtain ⟨z9, hu10, h⟩ := ob h
          refine G_callSI (ws2 := [(h_x, .inr (5, [.ref h_x_now, .ref h_past, .int x_pastStates, .ref h_x_text, .ref h_x_trial, .ref h_x_ways, .ref h_x_measured, .ref h_x_pairCounts])), (h_x_now, .inr (1, [.int x_now_row, .int x_now_table, .int x_now_kept, .ref h_x_now_book])), (h_x_now_book, .inl (cI, 8, .inl x_now_book)), (h_x_text, .inr (2, [.ref h_x_text_signs, .int x_text_length, .int x_text_word, .int x_text_kind, .int x_text_number, .int x_text_row, .int x_text_reached, .int x_text_broken])), (h_x_text_signs, .inl (cI, 60, .inl x_text_signs)), (h_x_trial, .inr (3, [.ref h_x_trial_state, .int x_trial_orders, .int x_trial_position, .int x_trial_reason, .int x_trial_cause])), (h_x_trial_state, .inr (1, [.int x_trial_state_row, .int x_trial_state_table, .int x_trial_state_kept, .ref h_x_trial_state_book])), (h_x_trial_state_book, .inl (cI, 8, .inl x_trial_state_book)), (h_x_ways, .inr (4, [.ref h_x_ways_stock, .ref h_x_ways_weight, .ref h_x_ways_known, .ref h_x_ways_found, nv x_ways_measure h_x_measured, .int x_ways_values, .int x_ways_row, .int x_ways_rowCodes, .int x_ways_table, .int x_ways_length, .int x_ways_full, .int x_ways_pairs, .int x_ways_codes])), (h_x_ways_stock, .inl (cI, 16, .inl x_ways_stock)), (h_x_ways_weight, .inl (cI, 16, .inl x_ways_weight)), (h_x_ways_known, .inl (cI, 577, .inl x_ways_known)), (h_x_ways_found, .inl (cI, 6347, .inl x_ways_found)), (h_x_measured, .inr (0, [.int x_measured_which, .int x_measured_x, .int x_measured_y, .int x_measured_row, .int x_measured_table])), (h_x_pairCounts, .inl (cI, 16, .inl x_pairCounts))]) hc m_X5_52 (c_X5_within l D cI cS X F a5 (4 : Int32) hu10) [] (rmok_of (Nat.le_of_ble_eq_true rfl)) ⟨Nat.zero_le _, Nat.zero_le _⟩ rfl rfl rfl rfl rfl ⟨rfl, rfl, rfl⟩ dX5_surprise_36 ?_
          refine G_if_ne (tgt := 45) hc dX5_surprise_39 (by decide) (fun c33 => ?_) (fun c33 => ?_)
          · have h := inn h c33
            refine G_aload_n hc dX5_surprise_45 rfl ?_
            refine G_get hc f_X5_44 0 rfl rfl dX5_surprise_46 ?_
            refine G_iload_n hc dX5_surprise_49 rfl ?_
            refine G_iload_n hc dX5_surprise_50 rfl ?_
            refine G_iload hc dX5_surprise_51 rfl ?_
            refine G_aload_n hc dX5_surprise_53 rfl ?_
            refine G_get hc f_X5_10 0 rfl rfl dX5_surprise_54 ?_
            obtain ⟨z11, hu12, h⟩ := ob h
            refine G_callVV (ws2 := [(h_x, .inr (5, [.ref h_x_now, .ref h_past, .int x_pastStates, .ref h_x_text, .ref h_x_trial, .ref h_x_ways, .ref h_x_measured, .ref h_x_pairCounts])), (h_x_now, .inr (1, [.int x_now_row, .int x_now_table, .int x_now_kept, .ref h_x_now_book])), (h_x_now_book, .inl (cI, 8, .inl x_now_book)), (h_x_text, .inr (2, [.ref h_x_text_signs, .int x_text_length, .int x_text_word, .int x_text_kind, .int x_text_number, .int x_text_row, .int x_text_reached, .int x_text_broken])), (h_x_text_signs, .inl (cI, 60, .inl x_text_signs)), (h_x_trial, .inr (3, [.ref h_x_trial_state, .int x_trial_orders, .int x_trial_position, .int x_trial_reason, .int x_trial_cause])), (h_x_trial_state, .inr (1, [.int x_trial_state_row, .int x_trial_state_table, .int x_trial_state_kept, .ref h_x_trial_state_book])), (h_x_trial_state_book, .inl (cI, 8, .inl x_trial_state_book)), (h_x_ways, .inr (4, [.ref h_x_ways_stock, .ref h_x_ways_weight, .ref h_x_ways_known, .ref h_x_ways_found, nv x_ways_measure h_x_measured, .int x_ways_values, .int x_ways_row, .int x_ways_rowCodes, .int x_ways_table, .int x_ways_length, .int x_ways_full, .int x_ways_pairs, .int x_ways_codes])), (h_x_ways_stock, .inl (cI, 16, .inl x_ways_stock)), (h_x_ways_weight, .inl (cI, 16, .inl x_ways_weight)), (h_x_ways_known, .inl (cI, 577, .inl x_ways_known)), (h_x_ways_found, .inl (cI, 6347, .inl x_ways_found)), (h_x_measured, .inr (0, [.int z11.1, .int z11.2.1, .int z11.2.2.1, .int z11.2.2.2.1, .int z11.2.2.2.2])), (h_x_pairCounts, .inl (cI, 16, .inl x_pairCounts))]) hc m_X5_124 (c_X0_set l D cI cS X F h_x_measured h_x_now h_x_now_book x_measured_which x_measured_x x_measured_y x_measured_row x_measured_table x_now_row x_now_table x_now_kept x_now_book a2 a3 a4 hu12) 13 [13, 1, 2] rfl rfl (rmok_of (Nat.le_of_ble_eq_true rfl)) ⟨Nat.zero_le _, Nat.zero_le _⟩ rfl rfl rfl rfl rfl ⟨rfl, rfl, rfl⟩ dX5_surprise_57 ?_
            refine G_aload_n hc dX5_surprise_60 rfl ?_
            refine G_get hc f_X5_37 0 rfl rfl dX5_surprise_61 ?_
            refine G_aload_n hc dX5_surprise_64 rfl ?_
            refine G_get hc f_X5_10 0 rfl rfl dX5_surprise_65 ?_
            refine G_iload_n hc dX5_surprise_68 rfl ?_
            refine G_aload_n hc dX5_surprise_69 rfl ?_
            refine G_get hc f_X5_44 0 rfl rfl dX5_surprise_70 ?_
            obtain ⟨z13, hu14, h⟩ := ob h
            refine G_callVV (ws2 := [(h_x, .inr (5, [.ref h_x_now, .ref h_past, .int x_pastStates, .ref h_x_text, .ref h_x_trial, .ref h_x_ways, .ref h_x_measured, .ref h_x_pairCounts])), (h_x_now, .inr (1, [.int x_now_row, .int x_now_table, .int x_now_kept, .ref h_x_now_book])), (h_x_now_book, .inl (cI, 8, .inl x_now_book)), (h_x_text, .inr (2, [.ref h_x_text_signs, .int x_text_length, .int x_text_word, .int x_text_kind, .int x_text_number, .int x_text_row, .int x_text_reached, .int x_text_broken])), (h_x_text_signs, .inl (cI, 60, .inl x_text_signs)), (h_x_trial, .inr (3, [.ref h_x_trial_state, .int x_trial_orders, .int x_trial_position, .int x_trial_reason, .int x_trial_cause])), (h_x_trial_state, .inr (1, [.int x_trial_state_row, .int x_trial_state_table, .int x_trial_state_kept, .ref h_x_trial_state_book])), (h_x_trial_state_book, .inl (cI, 8, .inl x_trial_state_book)), (h_x_ways, .inr (4, [.ref h_x_ways_stock, .ref h_x_ways_weight, .ref h_x_ways_known, .ref h_x_ways_found, nv z13.1 h_x_measured, .int z13.2.1, .int z13.2.2.1, .int z13.2.2.2.1, .int z13.2.2.2.2.1, .int z13.2.2.2.2.2.1, .int z13.2.2.2.2.2.2.1, .int z13.2.2.2.2.2.2.2.1, .int z13.2.2.2.2.2.2.2.2.1])), (h_x_ways_stock, .inl (cI, 16, .inl z13.2.2.2.2.2.2.2.2.2.1)), (h_x_ways_weight, .inl (cI, 16, .inl z13.2.2.2.2.2.2.2.2.2.2.1)), (h_x_ways_known, .inl (cI, 577, .inl z13.2.2.2.2.2.2.2.2.2.2.2.1)), (h_x_ways_found, .inl (cI, 6347, .inl z13.2.2.2.2.2.2.2.2.2.2.2.2)), (h_x_measured, .inr (0, [.int z11.1, .int z11.2.1, .int z11.2.2.1, .int z11.2.2.2.1, .int z11.2.2.2.2])), (h_x_pairCounts, .inl (cI, 16, .inl x_pairCounts))]) hc m_X5_131 (c_X4_openMeasured_wM l D cI cS X F h_x_ways h_x_ways_stock h_x_ways_weight h_x_ways_known h_x_ways_found h_x_measured h_x_now h_x_now_book x_ways_measure x_ways_values x_ways_row x_ways_rowCodes x_ways_table x_ways_length x_ways_full x_ways_pairs x_ways_codes x_ways_stock x_ways_weight x_ways_known x_ways_found z11.1 z11.2.1 z11.2.2.1 z11.2.2.2.1 z11.2.2.2.2 x_now_row x_now_table x_now_kept x_now_book a1 hu14) 8 [8, 9, 10, 11, 12, 13, 1, 2] rfl rfl (rmok_of (Nat.le_of_ble_eq_true rfl)) ⟨Nat.zero_le _, Nat.zero_le _⟩ rfl rfl rfl rfl rfl ⟨rfl, rfl, rfl⟩ dX5_surprise_73 ?_
            refine G_iload hc dX5_surprise_76 rfl ?_
            by_cases c15 : a5 = (0 : Int32)
            · have h := ip h c15
              refine G_tableIn (tgt := 108) hc dX5_surprise_78 (0 : Int32) c15 (by decide) (by decide) rfl (by decide) ?_
              refine G_aload_n hc dX5_surprise_108 rfl ?_
              refine G_get hc f_X5_37 0 rfl rfl dX5_surprise_109 ?_
              refine G_aload_n hc dX5_surprise_112 rfl ?_
              refine G_get hc f_X5_44 0 rfl rfl dX5_surprise_113 ?_
              obtain ⟨z16, hu17, h⟩ := ob h
              refine G_callVI (ws2 := [(h_x, .inr (5, [.ref h_x_now, .ref h_past, .int x_pastStates, .ref h_x_text, .ref h_x_trial, .ref h_x_ways, .ref h_x_measured, .ref h_x_pairCounts])), (h_x_now, .inr (1, [.int x_now_row, .int x_now_table, .int x_now_kept, .ref h_x_now_book])), (h_x_now_book, .inl (cI, 8, .inl x_now_book)), (h_x_text, .inr (2, [.ref h_x_text_signs, .int x_text_length, .int x_text_word, .int x_text_kind, .int x_text_number, .int x_text_row, .int x_text_reached, .int x_text_broken])), (h_x_text_signs, .inl (cI, 60, .inl x_text_signs)), (h_x_trial, .inr (3, [.ref h_x_trial_state, .int x_trial_orders, .int x_trial_position, .int x_trial_reason, .int x_trial_cause])), (h_x_trial_state, .inr (1, [.int x_trial_state_row, .int x_trial_state_table, .int x_trial_state_kept, .ref h_x_trial_state_book])), (h_x_trial_state_book, .inl (cI, 8, .inl x_trial_state_book)), (h_x_ways, .inr (4, [.ref h_x_ways_stock, .ref h_x_ways_weight, .ref h_x_ways_known, .ref h_x_ways_found, nv z13.1 h_x_measured, .int z13.2.1, .int z13.2.2.1, .int z13.2.2.2.1, .int z13.2.2.2.2.1, .int z13.2.2.2.2.2.1, .int z13.2.2.2.2.2.2.1, .int z13.2.2.2.2.2.2.2.1, .int z13.2.2.2.2.2.2.2.2.1])), (h_x_ways_stock, .inl (cI, 16, .inl z13.2.2.2.2.2.2.2.2.2.1)), (h_x_ways_weight, .inl (cI, 16, .inl z13.2.2.2.2.2.2.2.2.2.2.1)), (h_x_ways_known, .inl (cI, 577, .inl z13.2.2.2.2.2.2.2.2.2.2.2.1)), (h_x_ways_found, .inl (cI, 6347, .inl z13.2.2.2.2.2.2.2.2.2.2.2.2)), (h_x_measured, .inr (0, [.int z11.1, .int z11.2.1, .int z11.2.2.1, .int z11.2.2.2.1, .int z11.2.2.2.2])), (h_x_pairCounts, .inl (cI, 16, .inl x_pairCounts))]) hc m_X5_128 (c_X0_ofRow l D cI cS X F h_x_measured z11.1 z11.2.1 z11.2.2.1 z11.2.2.2.1 z11.2.2.2.2 hu17) 13 [13] rfl rfl (rmok_of (Nat.le_of_ble_eq_true rfl)) ⟨Nat.zero_le _, Nat.zero_le _⟩ rfl rfl rfl rfl rfl ⟨rfl, rfl, rfl⟩ dX5_surprise_116 ?_
              obtain ⟨z18, hu19, h⟩ := ob h
              refine G_callVI (ws2 := [(h_x, .inr (5, [.ref h_x_now, .ref h_past, .int x_pastStates, .ref h_x_text, .ref h_x_trial, .ref h_x_ways, .ref h_x_measured, .ref h_x_pairCounts])), (h_x_now, .inr (1, [.int x_now_row, .int x_now_table, .int x_now_kept, .ref h_x_now_book])), (h_x_now_book, .inl (cI, 8, .inl x_now_book)), (h_x_text, .inr (2, [.ref h_x_text_signs, .int x_text_length, .int x_text_word, .int x_text_kind, .int x_text_number, .int x_text_row, .int x_text_reached, .int x_text_broken])), (h_x_text_signs, .inl (cI, 60, .inl x_text_signs)), (h_x_trial, .inr (3, [.ref h_x_trial_state, .int x_trial_orders, .int x_trial_position, .int x_trial_reason, .int x_trial_cause])), (h_x_trial_state, .inr (1, [.int x_trial_state_row, .int x_trial_state_table, .int x_trial_state_kept, .ref h_x_trial_state_book])), (h_x_trial_state_book, .inl (cI, 8, .inl x_trial_state_book)), (h_x_ways, .inr (4, [.ref h_x_ways_stock, .ref h_x_ways_weight, .ref h_x_ways_known, .ref h_x_ways_found, nv z13.1 h_x_measured, .int z13.2.1, .int z13.2.2.1, .int z13.2.2.2.1, .int z13.2.2.2.2.1, .int z13.2.2.2.2.2.1, .int z13.2.2.2.2.2.2.1, .int z13.2.2.2.2.2.2.2.1, .int z13.2.2.2.2.2.2.2.2.1])), (h_x_ways_stock, .inl (cI, 16, .inl z13.2.2.2.2.2.2.2.2.2.1)), (h_x_ways_weight, .inl (cI, 16, .inl z13.2.2.2.2.2.2.2.2.2.2.1)), (h_x_ways_known, .inl (cI, 577, .inl z13.2.2.2.2.2.2.2.2.2.2.2.1)), (h_x_ways_found, .inl (cI, 6347, .inl z13.2.2.2.2.2.2.2.2.2.2.2.2)), (h_x_measured, .inr (0, [.int z11.1, .int z11.2.1, .int z11.2.2.1, .int z11.2.2.2.1, .int z11.2.2.2.2])), (h_x_pairCounts, .inl (cI, 16, .inl x_pairCounts))]) hc m_X5_135 (c_X4_atLeast l D cI cS X F h_x_ways h_x_ways_stock h_x_ways_weight h_x_ways_known h_x_ways_found h_x_measured z13.1 z13.2.1 z13.2.2.1 z13.2.2.2.1 z13.2.2.2.2.1 z13.2.2.2.2.2.1 z13.2.2.2.2.2.2.1 z13.2.2.2.2.2.2.2.1 z13.2.2.2.2.2.2.2.2.1 z13.2.2.2.2.2.2.2.2.2.1 z13.2.2.2.2.2.2.2.2.2.2.1 z13.2.2.2.2.2.2.2.2.2.2.2.1 z13.2.2.2.2.2.2.2.2.2.2.2.2 z11.1 z11.2.1 z11.2.2.1 z11.2.2.2.1 z11.2.2.2.2 z16 hu19) 8 [8, 9, 10, 11, 12, 13] rfl rfl (rmok_of (Nat.le_of_ble_eq_true rfl)) ⟨Nat.zero_le _, Nat.zero_le _⟩ rfl rfl rfl rfl rfl ⟨rfl, rfl, rfl⟩ dX5_surprise_119 ?_
              have h := Option.some.inj h
              subst h
              exact G_ireturn hc ⟨rfl, rfl⟩ dX5_surprise_122
            · have h := inn h c15
              by_cases c20 : a5 = (1 : Int32)
              · have h := ip h c20
                refine G_tableIn (tgt := 123) hc dX5_surprise_78 (1 : Int32) c20 (by decide) (by decide) rfl (by decide) ?_
                refine G_aload_n hc dX5_surprise_123 rfl ?_
                refine G_get hc f_X5_37 0 rfl rfl dX5_surprise_124 ?_
                obtain ⟨z21, hu22, h⟩ := ob h
                refine G_callVI (ws2 := [(h_x, .inr (5, [.ref h_x_now, .ref h_past, .int x_pastStates, .ref h_x_text, .ref h_x_trial, .ref h_x_ways, .ref h_x_measured, .ref h_x_pairCounts])), (h_x_now, .inr (1, [.int x_now_row, .int x_now_table, .int x_now_kept, .ref h_x_now_book])), (h_x_now_book, .inl (cI, 8, .inl x_now_book)), (h_x_text, .inr (2, [.ref h_x_text_signs, .int x_text_length, .int x_text_word, .int x_text_kind, .int x_text_number, .int x_text_row, .int x_text_reached, .int x_text_broken])), (h_x_text_signs, .inl (cI, 60, .inl x_text_signs)), (h_x_trial, .inr (3, [.ref h_x_trial_state, .int x_trial_orders, .int x_trial_position, .int x_trial_reason, .int x_trial_cause])), (h_x_trial_state, .inr (1, [.int x_trial_state_row, .int x_trial_state_table, .int x_trial_state_kept, .ref h_x_trial_state_book])), (h_x_trial_state_book, .inl (cI, 8, .inl x_trial_state_book)), (h_x_ways, .inr (4, [.ref h_x_ways_stock, .ref h_x_ways_weight, .ref h_x_ways_known, .ref h_x_ways_found, nv z13.1 h_x_measured, .int z13.2.1, .int z13.2.2.1, .int z13.2.2.2.1, .int z13.2.2.2.2.1, .int z13.2.2.2.2.2.1, .int z13.2.2.2.2.2.2.1, .int z13.2.2.2.2.2.2.2.1, .int z13.2.2.2.2.2.2.2.2.1])), (h_x_ways_stock, .inl (cI, 16, .inl z13.2.2.2.2.2.2.2.2.2.1)), (h_x_ways_weight, .inl (cI, 16, .inl z13.2.2.2.2.2.2.2.2.2.2.1)), (h_x_ways_known, .inl (cI, 577, .inl z13.2.2.2.2.2.2.2.2.2.2.2.1)), (h_x_ways_found, .inl (cI, 6347, .inl z13.2.2.2.2.2.2.2.2.2.2.2.2)), (h_x_measured, .inr (0, [.int z11.1, .int z11.2.1, .int z11.2.2.1, .int z11.2.2.2.1, .int z11.2.2.2.2])), (h_x_pairCounts, .inl (cI, 16, .inl x_pairCounts))]) hc m_X5_138 (c_X4_least l D cI cS X F h_x_ways h_x_ways_stock h_x_ways_weight h_x_ways_known h_x_ways_found h_x_measured z13.1 z13.2.1 z13.2.2.1 z13.2.2.2.1 z13.2.2.2.2.1 z13.2.2.2.2.2.1 z13.2.2.2.2.2.2.1 z13.2.2.2.2.2.2.2.1 z13.2.2.2.2.2.2.2.2.1 z13.2.2.2.2.2.2.2.2.2.1 z13.2.2.2.2.2.2.2.2.2.2.1 z13.2.2.2.2.2.2.2.2.2.2.2.1 z13.2.2.2.2.2.2.2.2.2.2.2.2 z11.1 z11.2.1 z11.2.2.1 z11.2.2.2.1 z11.2.2.2.2 hu22) 8 [8, 9, 10, 11, 12, 13] rfl rfl (rmok_of (Nat.le_of_ble_eq_true rfl)) ⟨Nat.zero_le _, Nat.zero_le _⟩ rfl rfl rfl rfl rfl ⟨rfl, rfl, rfl⟩ dX5_surprise_127 ?_
                have h := Option.some.inj h
                subst h
                exact G_ireturn hc ⟨rfl, rfl⟩ dX5_surprise_130
              · have h := inn h c20
                by_cases c23 : a5 = (2 : Int32)
                · have h := ip h c23
                  refine G_tableIn (tgt := 131) hc dX5_surprise_78 (2 : Int32) c23 (by decide) (by decide) rfl (by decide) ?_
                  refine G_aload_n hc dX5_surprise_131 rfl ?_
                  refine G_get hc f_X5_37 0 rfl rfl dX5_surprise_132 ?_
                  obtain ⟨z24, hu25, h⟩ := ob h
                  refine G_callVI (ws2 := [(h_x, .inr (5, [.ref h_x_now, .ref h_past, .int x_pastStates, .ref h_x_text, .ref h_x_trial, .ref h_x_ways, .ref h_x_measured, .ref h_x_pairCounts])), (h_x_now, .inr (1, [.int x_now_row, .int x_now_table, .int x_now_kept, .ref h_x_now_book])), (h_x_now_book, .inl (cI, 8, .inl x_now_book)), (h_x_text, .inr (2, [.ref h_x_text_signs, .int x_text_length, .int x_text_word, .int x_text_kind, .int x_text_number, .int x_text_row, .int x_text_reached, .int x_text_broken])), (h_x_text_signs, .inl (cI, 60, .inl x_text_signs)), (h_x_trial, .inr (3, [.ref h_x_trial_state, .int x_trial_orders, .int x_trial_position, .int x_trial_reason, .int x_trial_cause])), (h_x_trial_state, .inr (1, [.int x_trial_state_row, .int x_trial_state_table, .int x_trial_state_kept, .ref h_x_trial_state_book])), (h_x_trial_state_book, .inl (cI, 8, .inl x_trial_state_book)), (h_x_ways, .inr (4, [.ref h_x_ways_stock, .ref h_x_ways_weight, .ref h_x_ways_known, .ref h_x_ways_found, nv z13.1 h_x_measured, .int z13.2.1, .int z13.2.2.1, .int z13.2.2.2.1, .int z13.2.2.2.2.1, .int z13.2.2.2.2.2.1, .int z13.2.2.2.2.2.2.1, .int z13.2.2.2.2.2.2.2.1, .int z13.2.2.2.2.2.2.2.2.1])), (h_x_ways_stock, .inl (cI, 16, .inl z13.2.2.2.2.2.2.2.2.2.1)), (h_x_ways_weight, .inl (cI, 16, .inl z13.2.2.2.2.2.2.2.2.2.2.1)), (h_x_ways_known, .inl (cI, 577, .inl z13.2.2.2.2.2.2.2.2.2.2.2.1)), (h_x_ways_found, .inl (cI, 6347, .inl z13.2.2.2.2.2.2.2.2.2.2.2.2)), (h_x_measured, .inr (0, [.int z11.1, .int z11.2.1, .int z11.2.2.1, .int z11.2.2.2.1, .int z11.2.2.2.2])), (h_x_pairCounts, .inl (cI, 16, .inl x_pairCounts))]) hc m_X5_141 (c_X4_greatest l D cI cS X F h_x_ways h_x_ways_stock h_x_ways_weight h_x_ways_known h_x_ways_found h_x_measured z13.1 z13.2.1 z13.2.2.1 z13.2.2.2.1 z13.2.2.2.2.1 z13.2.2.2.2.2.1 z13.2.2.2.2.2.2.1 z13.2.2.2.2.2.2.2.1 z13.2.2.2.2.2.2.2.2.1 z13.2.2.2.2.2.2.2.2.2.1 z13.2.2.2.2.2.2.2.2.2.2.1 z13.2.2.2.2.2.2.2.2.2.2.2.1 z13.2.2.2.2.2.2.2.2.2.2.2.2 z11.1 z11.2.1 z11.2.2.1 z11.2.2.2.1 z11.2.2.2.2 hu25) 8 [8, 9, 10, 11, 12, 13] rfl rfl (rmok_of (Nat.le_of_ble_eq_true rfl)) ⟨Nat.zero_le _, Nat.zero_le _⟩ rfl rfl rfl rfl rfl ⟨rfl, rfl, rfl⟩ dX5_surprise_135 ?_
                  have h := Option.some.inj h
                  subst h
                  exact G_ireturn hc ⟨rfl, rfl⟩ dX5_surprise_138
                · have h := inn h c23
                  by_cases c26 : a5 = (3 : Int32)
                  · have h := ip h c26
                    refine G_tableIn (tgt := 139) hc dX5_surprise_78 (3 : Int32) c26 (by decide) (by decide) rfl (by decide) ?_
                    refine G_aload_n hc dX5_surprise_139 rfl ?_
                    refine G_get hc f_X5_37 0 rfl rfl dX5_surprise_140 ?_
                    obtain ⟨z27, hu28, h⟩ := ob h
                    refine G_callVI (ws2 := [(h_x, .inr (5, [.ref h_x_now, .ref h_past, .int x_pastStates, .ref h_x_text, .ref h_x_trial, .ref h_x_ways, .ref h_x_measured, .ref h_x_pairCounts])), (h_x_now, .inr (1, [.int x_now_row, .int x_now_table, .int x_now_kept, .ref h_x_now_book])), (h_x_now_book, .inl (cI, 8, .inl x_now_book)), (h_x_text, .inr (2, [.ref h_x_text_signs, .int x_text_length, .int x_text_word, .int x_text_kind, .int x_text_number, .int x_text_row, .int x_text_reached, .int x_text_broken])), (h_x_text_signs, .inl (cI, 60, .inl x_text_signs)), (h_x_trial, .inr (3, [.ref h_x_trial_state, .int x_trial_orders, .int x_trial_position, .int x_trial_reason, .int x_trial_cause])), (h_x_trial_state, .inr (1, [.int x_trial_state_row, .int x_trial_state_table, .int x_trial_state_kept, .ref h_x_trial_state_book])), (h_x_trial_state_book, .inl (cI, 8, .inl x_trial_state_book)), (h_x_ways, .inr (4, [.ref h_x_ways_stock, .ref h_x_ways_weight, .ref h_x_ways_known, .ref h_x_ways_found, nv z13.1 h_x_measured, .int z13.2.1, .int z13.2.2.1, .int z13.2.2.2.1, .int z13.2.2.2.2.1, .int z13.2.2.2.2.2.1, .int z13.2.2.2.2.2.2.1, .int z13.2.2.2.2.2.2.2.1, .int z13.2.2.2.2.2.2.2.2.1])), (h_x_ways_stock, .inl (cI, 16, .inl z13.2.2.2.2.2.2.2.2.2.1)), (h_x_ways_weight, .inl (cI, 16, .inl z13.2.2.2.2.2.2.2.2.2.2.1)), (h_x_ways_known, .inl (cI, 577, .inl z13.2.2.2.2.2.2.2.2.2.2.2.1)), (h_x_ways_found, .inl (cI, 6347, .inl z13.2.2.2.2.2.2.2.2.2.2.2.2)), (h_x_measured, .inr (0, [.int z11.1, .int z11.2.1, .int z11.2.2.1, .int z11.2.2.2.1, .int z11.2.2.2.2])), (h_x_pairCounts, .inl (cI, 16, .inl x_pairCounts))]) hc m_X5_144 (c_X4_sum l D cI cS X F h_x_ways h_x_ways_stock h_x_ways_weight h_x_ways_known h_x_ways_found h_x_measured z13.1 z13.2.1 z13.2.2.1 z13.2.2.2.1 z13.2.2.2.2.1 z13.2.2.2.2.2.1 z13.2.2.2.2.2.2.1 z13.2.2.2.2.2.2.2.1 z13.2.2.2.2.2.2.2.2.1 z13.2.2.2.2.2.2.2.2.2.1 z13.2.2.2.2.2.2.2.2.2.2.1 z13.2.2.2.2.2.2.2.2.2.2.2.1 z13.2.2.2.2.2.2.2.2.2.2.2.2 z11.1 z11.2.1 z11.2.2.1 z11.2.2.2.1 z11.2.2.2.2 hu28) 8 [8, 9, 10, 11, 12, 13] rfl rfl (rmok_of (Nat.le_of_ble_eq_true rfl)) ⟨Nat.zero_le _, Nat.zero_le _⟩ rfl rfl rfl rfl rfl ⟨rfl, rfl, rfl⟩ dX5_surprise_143 ?_
                    have h := Option.some.inj h
                    subst h
                    exact G_ireturn hc ⟨rfl, rfl⟩ dX5_surprise_146
                  · have h := inn h c26
                    refine G_tableOut (tgt := 147) hc dX5_surprise_78 (sw_out_0_3 c15 c20 c23 c26) (by decide) ?_
                    refine G_aload_n hc dX5_surprise_147 rfl ?_
                    refine G_get hc f_X5_37 0 rfl rfl dX5_surprise_148 ?_
                    refine G_aload_n hc dX5_surprise_151 rfl ?_
                    refine G_get hc f_X5_37 0 rfl rfl dX5_surprise_152 ?_
                    obtain ⟨z29, hu30, h⟩ := ob h
                    refine G_callVI (ws2 := [(h_x, .inr (5, [.ref h_x_now, .ref h_past, .int x_pastStates, .ref h_x_text, .ref h_x_trial, .ref h_x_ways, .ref h_x_measured, .ref h_x_pairCounts])), (h_x_now, .inr (1, [.int x_now_row, .int x_now_table, .int x_now_kept, .ref h_x_now_book])), (h_x_now_book, .inl (cI, 8, .inl x_now_book)), (h_x_text, .inr (2, [.ref h_x_text_signs, .int x_text_length, .int x_text_word, .int x_text_kind, .int x_text_number, .int x_text_row, .int x_text_reached, .int x_text_broken])), (h_x_text_signs, .inl (cI, 60, .inl x_text_signs)), (h_x_trial, .inr (3, [.ref h_x_trial_state, .int x_trial_orders, .int x_trial_position, .int x_trial_reason, .int x_trial_cause])), (h_x_trial_state, .inr (1, [.int x_trial_state_row, .int x_trial_state_table, .int x_trial_state_kept, .ref h_x_trial_state_book])), (h_x_trial_state_book, .inl (cI, 8, .inl x_trial_state_book)), (h_x_ways, .inr (4, [.ref h_x_ways_stock, .ref h_x_ways_weight, .ref h_x_ways_known, .ref h_x_ways_found, nv z13.1 h_x_measured, .int z13.2.1, .int z13.2.2.1, .int z13.2.2.2.1, .int z13.2.2.2.2.1, .int z13.2.2.2.2.2.1, .int z13.2.2.2.2.2.2.1, .int z13.2.2.2.2.2.2.2.1, .int z13.2.2.2.2.2.2.2.2.1])), (h_x_ways_stock, .inl (cI, 16, .inl z13.2.2.2.2.2.2.2.2.2.1)), (h_x_ways_weight, .inl (cI, 16, .inl z13.2.2.2.2.2.2.2.2.2.2.1)), (h_x_ways_known, .inl (cI, 577, .inl z13.2.2.2.2.2.2.2.2.2.2.2.1)), (h_x_ways_found, .inl (cI, 6347, .inl z13.2.2.2.2.2.2.2.2.2.2.2.2)), (h_x_measured, .inr (0, [.int z11.1, .int z11.2.1, .int z11.2.2.1, .int z11.2.2.2.1, .int z11.2.2.2.2])), (h_x_pairCounts, .inl (cI, 16, .inl x_pairCounts))]) hc m_X5_141 (c_X4_greatest l D cI cS X F h_x_ways h_x_ways_stock h_x_ways_weight h_x_ways_known h_x_ways_found h_x_measured z13.1 z13.2.1 z13.2.2.1 z13.2.2.2.1 z13.2.2.2.2.1 z13.2.2.2.2.2.1 z13.2.2.2.2.2.2.1 z13.2.2.2.2.2.2.2.1 z13.2.2.2.2.2.2.2.2.1 z13.2.2.2.2.2.2.2.2.2.1 z13.2.2.2.2.2.2.2.2.2.2.1 z13.2.2.2.2.2.2.2.2.2.2.2.1 z13.2.2.2.2.2.2.2.2.2.2.2.2 z11.1 z11.2.1 z11.2.2.1 z11.2.2.2.1 z11.2.2.2.2 hu30) 8 [8, 9, 10, 11, 12, 13] rfl rfl (rmok_of (Nat.le_of_ble_eq_true rfl)) ⟨Nat.zero_le _, Nat.zero_le _⟩ rfl rfl rfl rfl rfl ⟨rfl, rfl, rfl⟩ dX5_surprise_155 ?_
                    obtain ⟨z31, hu32, h⟩ := ob h
                    refine G_callVI (ws2 := [(h_x, .inr (5, [.ref h_x_now, .ref h_past, .int x_pastStates, .ref h_x_text, .ref h_x_trial, .ref h_x_ways, .ref h_x_measured, .ref h_x_pairCounts])), (h_x_now, .inr (1, [.int x_now_row, .int x_now_table, .int x_now_kept, .ref h_x_now_book])), (h_x_now_book, .inl (cI, 8, .inl x_now_book)), (h_x_text, .inr (2, [.ref h_x_text_signs, .int x_text_length, .int x_text_word, .int x_text_kind, .int x_text_number, .int x_text_row, .int x_text_reached, .int x_text_broken])), (h_x_text_signs, .inl (cI, 60, .inl x_text_signs)), (h_x_trial, .inr (3, [.ref h_x_trial_state, .int x_trial_orders, .int x_trial_position, .int x_trial_reason, .int x_trial_cause])), (h_x_trial_state, .inr (1, [.int x_trial_state_row, .int x_trial_state_table, .int x_trial_state_kept, .ref h_x_trial_state_book])), (h_x_trial_state_book, .inl (cI, 8, .inl x_trial_state_book)), (h_x_ways, .inr (4, [.ref h_x_ways_stock, .ref h_x_ways_weight, .ref h_x_ways_known, .ref h_x_ways_found, nv z13.1 h_x_measured, .int z13.2.1, .int z13.2.2.1, .int z13.2.2.2.1, .int z13.2.2.2.2.1, .int z13.2.2.2.2.2.1, .int z13.2.2.2.2.2.2.1, .int z13.2.2.2.2.2.2.2.1, .int z13.2.2.2.2.2.2.2.2.1])), (h_x_ways_stock, .inl (cI, 16, .inl z13.2.2.2.2.2.2.2.2.2.1)), (h_x_ways_weight, .inl (cI, 16, .inl z13.2.2.2.2.2.2.2.2.2.2.1)), (h_x_ways_known, .inl (cI, 577, .inl z13.2.2.2.2.2.2.2.2.2.2.2.1)), (h_x_ways_found, .inl (cI, 6347, .inl z13.2.2.2.2.2.2.2.2.2.2.2.2)), (h_x_measured, .inr (0, [.int z11.1, .int z11.2.1, .int z11.2.2.1, .int z11.2.2.2.1, .int z11.2.2.2.2])), (h_x_pairCounts, .inl (cI, 16, .inl x_pairCounts))]) hc m_X5_147 (c_X4_firstPlaceWith l D cI cS X F h_x_ways h_x_ways_stock h_x_ways_weight h_x_ways_known h_x_ways_found h_x_measured z13.1 z13.2.1 z13.2.2.1 z13.2.2.2.1 z13.2.2.2.2.1 z13.2.2.2.2.2.1 z13.2.2.2.2.2.2.1 z13.2.2.2.2.2.2.2.1 z13.2.2.2.2.2.2.2.2.1 z13.2.2.2.2.2.2.2.2.2.1 z13.2.2.2.2.2.2.2.2.2.2.1 z13.2.2.2.2.2.2.2.2.2.2.2.1 z13.2.2.2.2.2.2.2.2.2.2.2.2 z11.1 z11.2.1 z11.2.2.1 z11.2.2.2.1 z11.2.2.2.2 z29 hu32) 8 [8, 9, 10, 11, 12, 13] rfl rfl (rmok_of (Nat.le_of_ble_eq_true rfl)) ⟨Nat.zero_le _, Nat.zero_le _⟩ rfl rfl rfl rfl rfl ⟨rfl, rfl, rfl⟩ dX5_surprise_158 ?_
                    have h := Option.some.inj h
                    subst h
                    exact G_ireturn hc ⟨rfl, rfl⟩ dX5_surprise_161
          · have h := ip h c33
            refine G_ldc (v := -1000001) hc k_X5_56 dX5_surprise_42 ?_
            have h := Option.some.inj h
            subst h
            exact G_ireturn hc ⟨rfl, rfl⟩ dX5_surprise_44
