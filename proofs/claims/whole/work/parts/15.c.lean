set_option maxHeartbeats 4000000 in
set_option maxRecDepth 100000 in
theorem c_X4_openBoth (l : Launch) (D : va_G) (cI cS : ClassId) (X : XP) (F : Nat) (h_w h_w_stock h_w_weight h_w_known h_w_found h_wM h_o h_o_book : Nat) (w_measure : Bool) (w_values : Int32) (w_row : Int32) (w_rowCodes : Int32) (w_table : Int32) (w_length : Int32) (w_full : Int32) (w_pairs : Int32) (w_codes : Int32) (w_stock : Nat → Int32) (w_weight : Nat → Int32) (w_known : Nat → Int32) (w_found : Nat → Int32) (wM_which : Int32) (wM_x : Int32) (wM_y : Int32) (wM_row : Int32) (wM_table : Int32) (o_row : Int32) (o_table : Int32) (o_kept : Int32) (o_book : Nat → Int32) (a2 : Int32) (a3 : Int32) {res : Bool × Int32 × Int32 × Int32 × Int32 × Int32 × Int32 × Int32 × Int32 × (Nat → Int32) × (Nat → Int32) × (Nat → Int32) × (Nat → Int32)} (h : f_X4_openBoth F w_stock w_weight w_known w_found wM_which wM_x wM_y wM_row wM_table o_row o_table a2 a3 = some res) : CtV l D cI cS X yX4_openBoth cX4_openBoth 4 17 [.ref h_w, .ref h_o, .int a2, .int a3] [(h_w, .inr (4, [.ref h_w_stock, .ref h_w_weight, .ref h_w_known, .ref h_w_found, nv w_measure h_wM, .int w_values, .int w_row, .int w_rowCodes, .int w_table, .int w_length, .int w_full, .int w_pairs, .int w_codes])), (h_w_stock, .inl (cI, 16, .inl w_stock)), (h_w_weight, .inl (cI, 16, .inl w_weight)), (h_w_known, .inl (cI, 577, .inl w_known)), (h_w_found, .inl (cI, 6347, .inl w_found)), (h_wM, .inr (0, [.int wM_which, .int wM_x, .int wM_y, .int wM_row, .int wM_table])), (h_o, .inr (1, [.int o_row, .int o_table, .int o_kept, .ref h_o_book])), (h_o_book, .inl (cI, 8, .inl o_book))] (PoV [(h_w, .inr (4, [.ref h_w_stock, .ref h_w_weight, .ref h_w_known, .ref h_w_found, nv res.1 h_wM, .int res.2.1, .int res.2.2.1, .int res.2.2.2.1, .int res.2.2.2.2.1, .int res.2.2.2.2.2.1, .int res.2.2.2.2.2.2.1, .int res.2.2.2.2.2.2.2.1, .int res.2.2.2.2.2.2.2.2.1])), (h_w_stock, .inl (cI, 16, .inl res.2.2.2.2.2.2.2.2.2.1)), (h_w_weight, .inl (cI, 16, .inl res.2.2.2.2.2.2.2.2.2.2.1)), (h_w_known, .inl (cI, 577, .inl res.2.2.2.2.2.2.2.2.2.2.2.1)), (h_w_found, .inl (cI, 6347, .inl res.2.2.2.2.2.2.2.2.2.2.2.2)), (h_wM, .inr (0, [.int wM_which, .int wM_x, .int wM_y, .int wM_row, .int wM_table])), (h_o, .inr (1, [.int o_row, .int o_table, .int o_kept, .ref h_o_book])), (h_o_book, .inl (cI, 8, .inl o_book))]) := by
  refine CtV.of (by decide +kernel) rfl ?_
  intro p e s m below meth c A hc
  refine G_lv (lv' := [(0, .ref h_w), (1, .ref h_o), (2, .int a2), (3, .int a3)]) (lsame_cons rfl (lsame_cons rfl (lsame_cons rfl (lsame_cons rfl lsame_nil)))) ?_
  unfold f_X4_openBoth at h
  refine G_aload_n hc dX4_openBoth_0 rfl ?_
  refine G_null hc dX4_openBoth_1 ?_
  refine G_put (ws' := [(h_w, .inr (4, [.ref h_w_stock, .ref h_w_weight, .ref h_w_known, .ref h_w_found, nv true h_wM, .int w_values, .int w_row, .int w_rowCodes, .int w_table, .int w_length, .int w_full, .int w_pairs, .int w_codes])), (h_w_stock, .inl (cI, 16, .inl w_stock)), (h_w_weight, .inl (cI, 16, .inl w_weight)), (h_w_known, .inl (cI, 577, .inl w_known)), (h_w_found, .inl (cI, 6347, .inl w_found)), (h_wM, .inr (0, [.int wM_which, .int wM_x, .int wM_y, .int wM_row, .int wM_table])), (h_o, .inr (1, [.int o_row, .int o_table, .int o_kept, .ref h_o_book])), (h_o_book, .inl (cI, 8, .inl o_book))]) (v := .null) hc f_X4_24 p_X4_4 0 rfl rfl rfl rfl rfl dX4_openBoth_2 ?_
  refine G_aload_n hc dX4_openBoth_5 rfl ?_
  refine G_iload_n hc dX4_openBoth_6 rfl ?_
  obtain ⟨z1, hu2, h⟩ := ob h
  refine G_callNI (ws2 := [(h_w, .inr (4, [.ref h_w_stock, .ref h_w_weight, .ref h_w_known, .ref h_w_found, nv true h_wM, .int w_values, .int w_row, .int w_rowCodes, .int w_table, .int w_length, .int w_full, .int w_pairs, .int w_codes])), (h_w_stock, .inl (cI, 16, .inl w_stock)), (h_w_weight, .inl (cI, 16, .inl w_weight)), (h_w_known, .inl (cI, 577, .inl w_known)), (h_w_found, .inl (cI, 6347, .inl w_found)), (h_wM, .inr (0, [.int wM_which, .int wM_x, .int wM_y, .int wM_row, .int wM_table])), (h_o, .inr (1, [.int o_row, .int o_table, .int o_kept, .ref h_o_book])), (h_o_book, .inl (cI, 8, .inl o_book))]) hc m_X4_28 (c_X5_keepsPairs l D cI cS X F a2 hu2) [] (rmok_of (Nat.le_of_ble_eq_true rfl)) ⟨Nat.zero_le _, Nat.zero_le _⟩ rfl rfl rfl rfl rfl ⟨rfl, rfl, rfl⟩ dX4_openBoth_7 ?_
  obtain ⟨t3, hr5, h⟩ := ob h
  have hj4 : G p l e (rmk 17) s m [.ref h_w, .ref h_o, .int a2, .int a3].toArray below meth c D A 4 0 0 (QV below [.ref h_w, .ref h_o, .int a2, .int a3].toArray s D A (PoV [(h_w, .inr (4, [.ref h_w_stock, .ref h_w_weight, .ref h_w_known, .ref h_w_found, nv res.1 h_wM, .int res.2.1, .int res.2.2.1, .int res.2.2.2.1, .int res.2.2.2.2.1, .int res.2.2.2.2.2.1, .int res.2.2.2.2.2.2.1, .int res.2.2.2.2.2.2.2.1, .int res.2.2.2.2.2.2.2.2.1])), (h_w_stock, .inl (cI, 16, .inl res.2.2.2.2.2.2.2.2.2.1)), (h_w_weight, .inl (cI, 16, .inl res.2.2.2.2.2.2.2.2.2.2.1)), (h_w_known, .inl (cI, 577, .inl res.2.2.2.2.2.2.2.2.2.2.2.1)), (h_w_found, .inl (cI, 6347, .inl res.2.2.2.2.2.2.2.2.2.2.2.2)), (h_wM, .inr (0, [.int wM_which, .int wM_x, .int wM_y, .int wM_row, .int wM_table])), (h_o, .inr (1, [.int o_row, .int o_table, .int o_kept, .ref h_o_book])), (h_o_book, .inl (cI, 8, .inl o_book))])) [(h_w, .inr (4, [.ref h_w_stock, .ref h_w_weight, .ref h_w_known, .ref h_w_found, nv true h_wM, .int w_values, .int w_row, .int w_rowCodes, .int w_table, .int w_length, .int w_full, .int w_pairs, .int w_codes])), (h_w_stock, .inl (cI, 16, .inl w_stock)), (h_w_weight, .inl (cI, 16, .inl w_weight)), (h_w_known, .inl (cI, 577, .inl w_known)), (h_w_found, .inl (cI, 6347, .inl w_found)), (h_wM, .inr (0, [.int wM_which, .int wM_x, .int wM_y, .int wM_row, .int wM_table])), (h_o, .inr (1, [.int o_row, .int o_table, .int o_kept, .ref h_o_book])), (h_o_book, .inl (cI, 8, .inl o_book))] [(0, .ref h_w), (1, .ref h_o), (2, .int a2), (3, .int a3)] 25 [.int t3, .ref h_w] := by
    obtain ⟨hz10, h⟩ := zb h
    refine G_putz (ws' := [(h_w, .inr (4, [.ref h_w_stock, .ref h_w_weight, .ref h_w_known, .ref h_w_found, nv true h_wM, .int w_values, .int w_row, .int w_rowCodes, .int w_table, .int w_length, .int w_full, .int t3, .int w_codes])), (h_w_stock, .inl (cI, 16, .inl w_stock)), (h_w_weight, .inl (cI, 16, .inl w_weight)), (h_w_known, .inl (cI, 577, .inl w_known)), (h_w_found, .inl (cI, 6347, .inl w_found)), (h_wM, .inr (0, [.int wM_which, .int wM_x, .int wM_y, .int wM_row, .int wM_table])), (h_o, .inr (1, [.int o_row, .int o_table, .int o_kept, .ref h_o_book])), (h_o_book, .inl (cI, 8, .inl o_book))]) hc f_X4_32 p_X4_11 0 hz10 rfl rfl rfl dX4_openBoth_25 ?_
    refine G_aload_n hc dX4_openBoth_28 rfl ?_
    refine G_iload_n hc dX4_openBoth_29 rfl ?_
    obtain ⟨z11, hu12, h⟩ := ob h
    refine G_callNI (ws2 := [(h_w, .inr (4, [.ref h_w_stock, .ref h_w_weight, .ref h_w_known, .ref h_w_found, nv true h_wM, .int w_values, .int w_row, .int w_rowCodes, .int w_table, .int w_length, .int w_full, .int t3, .int w_codes])), (h_w_stock, .inl (cI, 16, .inl w_stock)), (h_w_weight, .inl (cI, 16, .inl w_weight)), (h_w_known, .inl (cI, 577, .inl w_known)), (h_w_found, .inl (cI, 6347, .inl w_found)), (h_wM, .inr (0, [.int wM_which, .int wM_x, .int wM_y, .int wM_row, .int wM_table])), (h_o, .inr (1, [.int o_row, .int o_table, .int o_kept, .ref h_o_book])), (h_o_book, .inl (cI, 8, .inl o_book))]) hc m_X4_36 (c_X5_keepsCodes l D cI cS X F a2 hu12) [] (rmok_of (Nat.le_of_ble_eq_true rfl)) ⟨Nat.zero_le _, Nat.zero_le _⟩ rfl rfl rfl rfl rfl ⟨rfl, rfl, rfl⟩ dX4_openBoth_30 ?_
    obtain ⟨t13, hr15, h⟩ := ob h
    have hj14 : G p l e (rmk 17) s m [.ref h_w, .ref h_o, .int a2, .int a3].toArray below meth c D A 4 0 0 (QV below [.ref h_w, .ref h_o, .int a2, .int a3].toArray s D A (PoV [(h_w, .inr (4, [.ref h_w_stock, .ref h_w_weight, .ref h_w_known, .ref h_w_found, nv res.1 h_wM, .int res.2.1, .int res.2.2.1, .int res.2.2.2.1, .int res.2.2.2.2.1, .int res.2.2.2.2.2.1, .int res.2.2.2.2.2.2.1, .int res.2.2.2.2.2.2.2.1, .int res.2.2.2.2.2.2.2.2.1])), (h_w_stock, .inl (cI, 16, .inl res.2.2.2.2.2.2.2.2.2.1)), (h_w_weight, .inl (cI, 16, .inl res.2.2.2.2.2.2.2.2.2.2.1)), (h_w_known, .inl (cI, 577, .inl res.2.2.2.2.2.2.2.2.2.2.2.1)), (h_w_found, .inl (cI, 6347, .inl res.2.2.2.2.2.2.2.2.2.2.2.2)), (h_wM, .inr (0, [.int wM_which, .int wM_x, .int wM_y, .int wM_row, .int wM_table])), (h_o, .inr (1, [.int o_row, .int o_table, .int o_kept, .ref h_o_book])), (h_o_book, .inl (cI, 8, .inl o_book))])) [(h_w, .inr (4, [.ref h_w_stock, .ref h_w_weight, .ref h_w_known, .ref h_w_found, nv true h_wM, .int w_values, .int w_row, .int w_rowCodes, .int w_table, .int w_length, .int w_full, .int t3, .int w_codes])), (h_w_stock, .inl (cI, 16, .inl w_stock)), (h_w_weight, .inl (cI, 16, .inl w_weight)), (h_w_known, .inl (cI, 577, .inl w_known)), (h_w_found, .inl (cI, 6347, .inl w_found)), (h_wM, .inr (0, [.int wM_which, .int wM_x, .int wM_y, .int wM_row, .int wM_table])), (h_o, .inr (1, [.int o_row, .int o_table, .int o_kept, .ref h_o_book])), (h_o_book, .inl (cI, 8, .inl o_book))] [(0, .ref h_w), (1, .ref h_o)] 48 [.int t13, .ref h_w] := by
      obtain ⟨hz20, h⟩ := zb h
      refine G_putz (ws' := [(h_w, .inr (4, [.ref h_w_stock, .ref h_w_weight, .ref h_w_known, .ref h_w_found, nv true h_wM, .int w_values, .int w_row, .int w_rowCodes, .int w_table, .int w_length, .int w_full, .int t3, .int t13])), (h_w_stock, .inl (cI, 16, .inl w_stock)), (h_w_weight, .inl (cI, 16, .inl w_weight)), (h_w_known, .inl (cI, 577, .inl w_known)), (h_w_found, .inl (cI, 6347, .inl w_found)), (h_wM, .inr (0, [.int wM_which, .int wM_x, .int wM_y, .int wM_row, .int wM_table])), (h_o, .inr (1, [.int o_row, .int o_table, .int o_kept, .ref h_o_book])), (h_o_book, .inl (cI, 8, .inl o_book))]) hc f_X4_39 p_X4_12 0 hz20 rfl rfl rfl dX4_openBoth_48 ?_
      refine G_aload_n hc dX4_openBoth_51 rfl ?_
      refine G_aload_n hc dX4_openBoth_52 rfl ?_
      obtain ⟨z21, hu22, h⟩ := ob h
      refine G_callVV (ws2 := [(h_w, .inr (4, [.ref h_w_stock, .ref h_w_weight, .ref h_w_known, .ref h_w_found, nv true h_wM, .int z21.1, .int z21.2.1, .int z21.2.2.1, .int z21.2.2.2.1, .int z21.2.2.2.2.1, .int z21.2.2.2.2.2.1, .int t3, .int t13])), (h_w_stock, .inl (cI, 16, .inl z21.2.2.2.2.2.2.1)), (h_w_weight, .inl (cI, 16, .inl z21.2.2.2.2.2.2.2.1)), (h_w_known, .inl (cI, 577, .inl z21.2.2.2.2.2.2.2.2)), (h_w_found, .inl (cI, 6347, .inl w_found)), (h_wM, .inr (0, [.int wM_which, .int wM_x, .int wM_y, .int wM_row, .int wM_table])), (h_o, .inr (1, [.int o_row, .int o_table, .int o_kept, .ref h_o_book])), (h_o_book, .inl (cI, 8, .inl o_book))]) hc m_X4_42 (c_X4_prepare l D cI cS X F h_w h_w_stock h_w_weight h_w_known h_w_found h_wM h_o h_o_book true w_values w_row w_rowCodes w_table w_length w_full t3 t13 w_stock w_weight w_known w_found wM_which wM_x wM_y wM_row wM_table o_row o_table o_kept o_book hu22) 0 [0, 1, 2, 3, 4, 5, 6, 7] rfl rfl (rmok_of (Nat.le_of_ble_eq_true rfl)) ⟨Nat.zero_le _, Nat.zero_le _⟩ rfl rfl rfl rfl rfl ⟨rfl, rfl, rfl⟩ dX4_openBoth_53 ?_
      refine G_aload_n hc dX4_openBoth_56 rfl ?_
      refine G_aload_n hc dX4_openBoth_57 rfl ?_
      refine G_get hc f_X4_46 0 rfl rfl dX4_openBoth_58 ?_
      refine G_iconst (v := 0) hc dX4_openBoth_61 (by decide) ?_
      refine G_iconst (v := 0) hc dX4_openBoth_62 (by decide) ?_
      obtain ⟨z23, hu24, h⟩ := ob h
      refine G_callSV (ws2 := [(h_w, .inr (4, [.ref h_w_stock, .ref h_w_weight, .ref h_w_known, .ref h_w_found, nv true h_wM, .int z21.1, .int z21.2.1, .int z21.2.2.1, .int z21.2.2.2.1, .int z21.2.2.2.2.1, .int z21.2.2.2.2.2.1, .int t3, .int t13])), (h_w_stock, .inl (cI, 16, .inl z21.2.2.2.2.2.2.1)), (h_w_weight, .inl (cI, 16, .inl z21.2.2.2.2.2.2.2.1)), (h_w_known, .inl (cI, 577, .inl z23.1)), (h_w_found, .inl (cI, 6347, .inl z23.2)), (h_wM, .inr (0, [.int wM_which, .int wM_x, .int wM_y, .int wM_row, .int wM_table])), (h_o, .inr (1, [.int o_row, .int o_table, .int o_kept, .ref h_o_book])), (h_o_book, .inl (cI, 8, .inl o_book))]) hc m_X4_50 (c_X4_solve l D cI cS X F 12 h_w h_w_stock h_w_weight h_w_known h_w_found h_wM true z21.1 z21.2.1 z21.2.2.1 z21.2.2.2.1 z21.2.2.2.2.1 z21.2.2.2.2.2.1 t3 t13 z21.2.2.2.2.2.2.1 z21.2.2.2.2.2.2.2.1 z21.2.2.2.2.2.2.2.2 w_found wM_which wM_x wM_y wM_row wM_table z21.2.2.2.2.2.1 (0 : Int32) (0 : Int32) hu24) [0, 1, 2, 3, 4, 5] (rmok_of (Nat.le_of_ble_eq_true rfl)) ⟨Nat.zero_le _, Nat.zero_le _⟩ rfl rfl rfl rfl rfl ⟨rfl, rfl, rfl⟩ dX4_openBoth_63 ?_
      have h := Option.some.inj h
      subst h
      exact G_return hc rfl dX4_openBoth_66
    clear h
    have h := hr15
    clear hr15
    refine G_if_ne (tgt := 43) hc dX4_openBoth_33 (by decide) (fun c19 => ?_) (fun c19 => ?_)
    · have h := inn h c19
      refine G_iconst (v := 1) hc dX4_openBoth_43 (by decide) ?_
      refine G_goto (tgt := 48) hc dX4_openBoth_44 (by decide) ?_
      have h := Option.some.inj h
      subst h
      refine G_lv (lv' := [(0, .ref h_w), (1, .ref h_o)]) (lsame_cons rfl (lsame_cons rfl lsame_nil)) ?_
      exact hj14
    · have h := ip h c19
      refine G_iload_n hc dX4_openBoth_36 rfl ?_
      obtain ⟨z16, hu17, h⟩ := ob h
      refine G_callNI (ws2 := [(h_w, .inr (4, [.ref h_w_stock, .ref h_w_weight, .ref h_w_known, .ref h_w_found, nv true h_wM, .int w_values, .int w_row, .int w_rowCodes, .int w_table, .int w_length, .int w_full, .int t3, .int w_codes])), (h_w_stock, .inl (cI, 16, .inl w_stock)), (h_w_weight, .inl (cI, 16, .inl w_weight)), (h_w_known, .inl (cI, 577, .inl w_known)), (h_w_found, .inl (cI, 6347, .inl w_found)), (h_wM, .inr (0, [.int wM_which, .int wM_x, .int wM_y, .int wM_row, .int wM_table])), (h_o, .inr (1, [.int o_row, .int o_table, .int o_kept, .ref h_o_book])), (h_o_book, .inl (cI, 8, .inl o_book))]) hc m_X4_36 (c_X5_keepsCodes l D cI cS X F a3 hu17) [] (rmok_of (Nat.le_of_ble_eq_true rfl)) ⟨Nat.zero_le _, Nat.zero_le _⟩ rfl rfl rfl rfl rfl ⟨rfl, rfl, rfl⟩ dX4_openBoth_37 ?_
      refine G_if_eq (tgt := 47) hc dX4_openBoth_40 (by decide) (fun c18 => ?_) (fun c18 => ?_)
      · have h := ip h c18
        refine G_iconst (v := 0) hc dX4_openBoth_47 (by decide) ?_
        have h := Option.some.inj h
        subst h
        refine G_lv (lv' := [(0, .ref h_w), (1, .ref h_o)]) (lsame_cons rfl (lsame_cons rfl lsame_nil)) ?_
        exact hj14
      · have h := inn h c18
        refine G_iconst (v := 1) hc dX4_openBoth_43 (by decide) ?_
        refine G_goto (tgt := 48) hc dX4_openBoth_44 (by decide) ?_
        have h := Option.some.inj h
        subst h
        refine G_lv (lv' := [(0, .ref h_w), (1, .ref h_o)]) (lsame_cons rfl (lsame_cons rfl lsame_nil)) ?_
        exact hj14
  clear h
  have h := hr5
  clear hr5
  refine G_if_ne (tgt := 20) hc dX4_openBoth_10 (by decide) (fun c9 => ?_) (fun c9 => ?_)
  · have h := inn h c9
    refine G_iconst (v := 1) hc dX4_openBoth_20 (by decide) ?_
    refine G_goto (tgt := 25) hc dX4_openBoth_21 (by decide) ?_
    have h := Option.some.inj h
    subst h
    refine G_lv (lv' := [(0, .ref h_w), (1, .ref h_o), (2, .int a2), (3, .int a3)]) (lsame_cons rfl (lsame_cons rfl (lsame_cons rfl (lsame_cons rfl lsame_nil)))) ?_
    exact hj4
  · have h := ip h c9
    refine G_iload_n hc dX4_openBoth_13 rfl ?_
    obtain ⟨z6, hu7, h⟩ := ob h
    refine G_callNI (ws2 := [(h_w, .inr (4, [.ref h_w_stock, .ref h_w_weight, .ref h_w_known, .ref h_w_found, nv true h_wM, .int w_values, .int w_row, .int w_rowCodes, .int w_table, .int w_length, .int w_full, .int w_pairs, .int w_codes])), (h_w_stock, .inl (cI, 16, .inl w_stock)), (h_w_weight, .inl (cI, 16, .inl w_weight)), (h_w_known, .inl (cI, 577, .inl w_known)), (h_w_found, .inl (cI, 6347, .inl w_found)), (h_wM, .inr (0, [.int wM_which, .int wM_x, .int wM_y, .int wM_row, .int wM_table])), (h_o, .inr (1, [.int o_row, .int o_table, .int o_kept, .ref h_o_book])), (h_o_book, .inl (cI, 8, .inl o_book))]) hc m_X4_28 (c_X5_keepsPairs l D cI cS X F a3 hu7) [] (rmok_of (Nat.le_of_ble_eq_true rfl)) ⟨Nat.zero_le _, Nat.zero_le _⟩ rfl rfl rfl rfl rfl ⟨rfl, rfl, rfl⟩ dX4_openBoth_14 ?_
    refine G_if_eq (tgt := 24) hc dX4_openBoth_17 (by decide) (fun c8 => ?_) (fun c8 => ?_)
    · have h := ip h c8
      refine G_iconst (v := 0) hc dX4_openBoth_24 (by decide) ?_
      have h := Option.some.inj h
      subst h
      refine G_lv (lv' := [(0, .ref h_w), (1, .ref h_o), (2, .int a2), (3, .int a3)]) (lsame_cons rfl (lsame_cons rfl (lsame_cons rfl (lsame_cons rfl lsame_nil)))) ?_
      exact hj4
    · have h := inn h c8
      refine G_iconst (v := 1) hc dX4_openBoth_20 (by decide) ?_
      refine G_goto (tgt := 25) hc dX4_openBoth_21 (by decide) ?_
      have h := Option.some.inj h
      subst h
      refine G_lv (lv' := [(0, .ref h_w), (1, .ref h_o), (2, .int a2), (3, .int a3)]) (lsame_cons rfl (lsame_cons rfl (lsame_cons rfl (lsame_cons rfl lsame_nil)))) ?_
      exact hj4
set_option maxHeartbeats 4000000 in
set_option maxRecDepth 100000 in
theorem c_X5_common (l : Launch) (D : va_G) (cI cS : ClassId) (X : XP) (F : Nat) (h_x h_x_now h_x_now_book h_x_text h_x_text_signs h_x_trial h_x_trial_state h_x_trial_state_book h_x_ways h_x_ways_stock h_x_ways_weight h_x_ways_known h_x_ways_found h_x_measured h_x_pairCounts h_past : Nat) (x_pastStates : Int32) (x_now_row : Int32) (x_now_table : Int32) (x_now_kept : Int32) (x_now_book : Nat → Int32) (x_text_length : Int32) (x_text_word : Int32) (x_text_kind : Int32) (x_text_number : Int32) (x_text_row : Int32) (x_text_reached : Int32) (x_text_broken : Int32) (x_text_signs : Nat → Int32) (x_trial_orders : Int32) (x_trial_position : Int32) (x_trial_reason : Int32) (x_trial_cause : Int32) (x_trial_state_row : Int32) (x_trial_state_table : Int32) (x_trial_state_kept : Int32) (x_trial_state_book : Nat → Int32) (x_ways_measure : Bool) (x_ways_values : Int32) (x_ways_row : Int32) (x_ways_rowCodes : Int32) (x_ways_table : Int32) (x_ways_length : Int32) (x_ways_full : Int32) (x_ways_pairs : Int32) (x_ways_codes : Int32) (x_ways_stock : Nat → Int32) (x_ways_weight : Nat → Int32) (x_ways_known : Nat → Int32) (x_ways_found : Nat → Int32) (x_measured_which : Int32) (x_measured_x : Int32) (x_measured_y : Int32) (x_measured_row : Int32) (x_measured_table : Int32) (x_pairCounts : Nat → Int32) (a1 : Int32) (a2 : Int32) {res : Int32 × Bool × Int32 × Int32 × Int32 × Int32 × Int32 × Int32 × Int32 × Int32 × (Nat → Int32) × (Nat → Int32) × (Nat → Int32) × (Nat → Int32)} (h : f_X5_common F x_now_row x_now_table x_ways_measure x_ways_values x_ways_row x_ways_rowCodes x_ways_table x_ways_length x_ways_full x_ways_pairs x_ways_codes x_ways_stock x_ways_weight x_ways_known x_ways_found x_measured_which x_measured_x x_measured_y x_measured_row x_measured_table a1 a2 = some res) : CtI l D cI cS X yX5_common cX5_common 3 (some .int) 18 [.ref h_x, .int a1, .int a2] [(h_x, .inr (5, [.ref h_x_now, .ref h_past, .int x_pastStates, .ref h_x_text, .ref h_x_trial, .ref h_x_ways, .ref h_x_measured, .ref h_x_pairCounts])), (h_x_now, .inr (1, [.int x_now_row, .int x_now_table, .int x_now_kept, .ref h_x_now_book])), (h_x_now_book, .inl (cI, 8, .inl x_now_book)), (h_x_text, .inr (2, [.ref h_x_text_signs, .int x_text_length, .int x_text_word, .int x_text_kind, .int x_text_number, .int x_text_row, .int x_text_reached, .int x_text_broken])), (h_x_text_signs, .inl (cI, 60, .inl x_text_signs)), (h_x_trial, .inr (3, [.ref h_x_trial_state, .int x_trial_orders, .int x_trial_position, .int x_trial_reason, .int x_trial_cause])), (h_x_trial_state, .inr (1, [.int x_trial_state_row, .int x_trial_state_table, .int x_trial_state_kept, .ref h_x_trial_state_book])), (h_x_trial_state_book, .inl (cI, 8, .inl x_trial_state_book)), (h_x_ways, .inr (4, [.ref h_x_ways_stock, .ref h_x_ways_weight, .ref h_x_ways_known, .ref h_x_ways_found, nv x_ways_measure h_x_measured, .int x_ways_values, .int x_ways_row, .int x_ways_rowCodes, .int x_ways_table, .int x_ways_length, .int x_ways_full, .int x_ways_pairs, .int x_ways_codes])), (h_x_ways_stock, .inl (cI, 16, .inl x_ways_stock)), (h_x_ways_weight, .inl (cI, 16, .inl x_ways_weight)), (h_x_ways_known, .inl (cI, 577, .inl x_ways_known)), (h_x_ways_found, .inl (cI, 6347, .inl x_ways_found)), (h_x_measured, .inr (0, [.int x_measured_which, .int x_measured_x, .int x_measured_y, .int x_measured_row, .int x_measured_table])), (h_x_pairCounts, .inl (cI, 16, .inl x_pairCounts))] (PoI res.1 [(h_x, .inr (5, [.ref h_x_now, .ref h_past, .int x_pastStates, .ref h_x_text, .ref h_x_trial, .ref h_x_ways, .ref h_x_measured, .ref h_x_pairCounts])), (h_x_now, .inr (1, [.int x_now_row, .int x_now_table, .int x_now_kept, .ref h_x_now_book])), (h_x_now_book, .inl (cI, 8, .inl x_now_book)), (h_x_text, .inr (2, [.ref h_x_text_signs, .int x_text_length, .int x_text_word, .int x_text_kind, .int x_text_number, .int x_text_row, .int x_text_reached, .int x_text_broken])), (h_x_text_signs, .inl (cI, 60, .inl x_text_signs)), (h_x_trial, .inr (3, [.ref h_x_trial_state, .int x_trial_orders, .int x_trial_position, .int x_trial_reason, .int x_trial_cause])), (h_x_trial_state, .inr (1, [.int x_trial_state_row, .int x_trial_state_table, .int x_trial_state_kept, .ref h_x_trial_state_book])), (h_x_trial_state_book, .inl (cI, 8, .inl x_trial_state_book)), (h_x_ways, .inr (4, [.ref h_x_ways_stock, .ref h_x_ways_weight, .ref h_x_ways_known, .ref h_x_ways_found, nv res.2.1 h_x_measured, .int res.2.2.1, .int res.2.2.2.1, .int res.2.2.2.2.1, .int res.2.2.2.2.2.1, .int res.2.2.2.2.2.2.1, .int res.2.2.2.2.2.2.2.1, .int res.2.2.2.2.2.2.2.2.1, .int res.2.2.2.2.2.2.2.2.2.1])), (h_x_ways_stock, .inl (cI, 16, .inl res.2.2.2.2.2.2.2.2.2.2.1)), (h_x_ways_weight, .inl (cI, 16, .inl res.2.2.2.2.2.2.2.2.2.2.2.1)), (h_x_ways_known, .inl (cI, 577, .inl res.2.2.2.2.2.2.2.2.2.2.2.2.1)), (h_x_ways_found, .inl (cI, 6347, .inl res.2.2.2.2.2.2.2.2.2.2.2.2.2)), (h_x_measured, .inr (0, [.int x_measured_which, .int x_measured_x, .int x_measured_y, .int x_measured_row, .int x_measured_table])), (h_x_pairCounts, .inl (cI, 16, .inl x_pairCounts))]) := by
  refine CtI.of (by decide +kernel) rfl ?_
  intro p e s m below meth c A hc
  refine G_lv (lv' := [(0, .ref h_x), (1, .int a1), (2, .int a2)]) (lsame_cons rfl (lsame_cons rfl (lsame_cons rfl lsame_nil))) ?_
  unfold f_X5_common at h
  refine G_iload_n hc dX5_common_0 rfl ?_
  refine G_iconst (v := 3) hc dX5_common_1 (by decide) ?_
  obtain ⟨z1, hu2, h⟩ := ob h
  refine G_callSI (ws2 := [(h_x, .inr (5, [.ref h_x_now, .ref h_past, .int x_pastStates, .ref h_x_text, .ref h_x_trial, .ref h_x_ways, .ref h_x_measured, .ref h_x_pairCounts])), (h_x_now, .inr (1, [.int x_now_row, .int x_now_table, .int x_now_kept, .ref h_x_now_book])), (h_x_now_book, .inl (cI, 8, .inl x_now_book)), (h_x_text, .inr (2, [.ref h_x_text_signs, .int x_text_length, .int x_text_word, .int x_text_kind, .int x_text_number, .int x_text_row, .int x_text_reached, .int x_text_broken])), (h_x_text_signs, .inl (cI, 60, .inl x_text_signs)), (h_x_trial, .inr (3, [.ref h_x_trial_state, .int x_trial_orders, .int x_trial_position, .int x_trial_reason, .int x_trial_cause])), (h_x_trial_state, .inr (1, [.int x_trial_state_row, .int x_trial_state_table, .int x_trial_state_kept, .ref h_x_trial_state_book])), (h_x_trial_state_book, .inl (cI, 8, .inl x_trial_state_book)), (h_x_ways, .inr (4, [.ref h_x_ways_stock, .ref h_x_ways_weight, .ref h_x_ways_known, .ref h_x_ways_found, nv x_ways_measure h_x_measured, .int x_ways_values, .int x_ways_row, .int x_ways_rowCodes, .int x_ways_table, .int x_ways_length, .int x_ways_full, .int x_ways_pairs, .int x_ways_codes])), (h_x_ways_stock, .inl (cI, 16, .inl x_ways_stock)), (h_x_ways_weight, .inl (cI, 16, .inl x_ways_weight)), (h_x_ways_known, .inl (cI, 577, .inl x_ways_known)), (h_x_ways_found, .inl (cI, 6347, .inl x_ways_found)), (h_x_measured, .inr (0, [.int x_measured_which, .int x_measured_x, .int x_measured_y, .int x_measured_row, .int x_measured_table])), (h_x_pairCounts, .inl (cI, 16, .inl x_pairCounts))]) hc m_X5_52 (c_X5_within l D cI cS X F a1 (3 : Int32) hu2) [] (rmok_of (Nat.le_of_ble_eq_true rfl)) ⟨Nat.zero_le _, Nat.zero_le _⟩ rfl rfl rfl rfl rfl ⟨rfl, rfl, rfl⟩ dX5_common_2 ?_
  refine G_if_eq (tgt := 16) hc dX5_common_5 (by decide) (fun c10 => ?_) (fun c10 => ?_)
  · have h := ip h c10
    refine G_ldc (v := -1000001) hc k_X5_56 dX5_common_16 ?_
    have h := Option.some.inj h
    subst h
    exact G_ireturn hc ⟨rfl, rfl⟩ dX5_common_18
  · have h := inn h c10
    refine G_iload_n hc dX5_common_8 rfl ?_
    refine G_iconst (v := 3) hc dX5_common_9 (by decide) ?_
    obtain ⟨z3, hu4, h⟩ := ob h
    refine G_callSI (ws2 := [(h_x, .inr (5, [.ref h_x_now, .ref h_past, .int x_pastStates, .ref h_x_text, .ref h_x_trial, .ref h_x_ways, .ref h_x_measured, .ref h_x_pairCounts])), (h_x_now, .inr (1, [.int x_now_row, .int x_now_table, .int x_now_kept, .ref h_x_now_book])), (h_x_now_book, .inl (cI, 8, .inl x_now_book)), (h_x_text, .inr (2, [.ref h_x_text_signs, .int x_text_length, .int x_text_word, .int x_text_kind, .int x_text_number, .int x_text_row, .int x_text_reached, .int x_text_broken])), (h_x_text_signs, .inl (cI, 60, .inl x_text_signs)), (h_x_trial, .inr (3, [.ref h_x_trial_state, .int x_trial_orders, .int x_trial_position, .int x_trial_reason, .int x_trial_cause])), (h_x_trial_state, .inr (1, [.int x_trial_state_row, .int x_trial_state_table, .int x_trial_state_kept, .ref h_x_trial_state_book])), (h_x_trial_state_book, .inl (cI, 8, .inl x_trial_state_book)), (h_x_ways, .inr (4, [.ref h_x_ways_stock, .ref h_x_ways_weight, .ref h_x_ways_known, .ref h_x_ways_found, nv x_ways_measure h_x_measured, .int x_ways_values, .int x_ways_row, .int x_ways_rowCodes, .int x_ways_table, .int x_ways_length, .int x_ways_full, .int x_ways_pairs, .int x_ways_codes])), (h_x_ways_stock, .inl (cI, 16, .inl x_ways_stock)), (h_x_ways_weight, .inl (cI, 16, .inl x_ways_weight)), (h_x_ways_known, .inl (cI, 577, .inl x_ways_known)), (h_x_ways_found, .inl (cI, 6347, .inl x_ways_found)), (h_x_measured, .inr (0, [.int x_measured_which, .int x_measured_x, .int x_measured_y, .int x_measured_row, .int x_measured_table])), (h_x_pairCounts, .inl (cI, 16, .inl x_pairCounts))]) hc m_X5_52 (c_X5_within l D cI cS X F a2 (3 : Int32) hu4) [] (rmok_of (Nat.le_of_ble_eq_true rfl)) ⟨Nat.zero_le _, Nat.zero_le _⟩ rfl rfl rfl rfl rfl ⟨rfl, rfl, rfl⟩ dX5_common_10 ?_
    refine G_if_ne (tgt := 19) hc dX5_common_13 (by decide) (fun c9 => ?_) (fun c9 => ?_)
    · have h := inn h c9
      refine G_aload_n hc dX5_common_19 rfl ?_
      refine G_get hc f_X5_37 0 rfl rfl dX5_common_20 ?_
      refine G_aload_n hc dX5_common_23 rfl ?_
      refine G_get hc f_X5_10 0 rfl rfl dX5_common_24 ?_
      refine G_iload_n hc dX5_common_27 rfl ?_
      refine G_iload_n hc dX5_common_28 rfl ?_
      obtain ⟨z5, hu6, h⟩ := ob h
      refine G_callVV (ws2 := [(h_x, .inr (5, [.ref h_x_now, .ref h_past, .int x_pastStates, .ref h_x_text, .ref h_x_trial, .ref h_x_ways, .ref h_x_measured, .ref h_x_pairCounts])), (h_x_now, .inr (1, [.int x_now_row, .int x_now_table, .int x_now_kept, .ref h_x_now_book])), (h_x_now_book, .inl (cI, 8, .inl x_now_book)), (h_x_text, .inr (2, [.ref h_x_text_signs, .int x_text_length, .int x_text_word, .int x_text_kind, .int x_text_number, .int x_text_row, .int x_text_reached, .int x_text_broken])), (h_x_text_signs, .inl (cI, 60, .inl x_text_signs)), (h_x_trial, .inr (3, [.ref h_x_trial_state, .int x_trial_orders, .int x_trial_position, .int x_trial_reason, .int x_trial_cause])), (h_x_trial_state, .inr (1, [.int x_trial_state_row, .int x_trial_state_table, .int x_trial_state_kept, .ref h_x_trial_state_book])), (h_x_trial_state_book, .inl (cI, 8, .inl x_trial_state_book)), (h_x_ways, .inr (4, [.ref h_x_ways_stock, .ref h_x_ways_weight, .ref h_x_ways_known, .ref h_x_ways_found, nv z5.1 h_x_measured, .int z5.2.1, .int z5.2.2.1, .int z5.2.2.2.1, .int z5.2.2.2.2.1, .int z5.2.2.2.2.2.1, .int z5.2.2.2.2.2.2.1, .int z5.2.2.2.2.2.2.2.1, .int z5.2.2.2.2.2.2.2.2.1])), (h_x_ways_stock, .inl (cI, 16, .inl z5.2.2.2.2.2.2.2.2.2.1)), (h_x_ways_weight, .inl (cI, 16, .inl z5.2.2.2.2.2.2.2.2.2.2.1)), (h_x_ways_known, .inl (cI, 577, .inl z5.2.2.2.2.2.2.2.2.2.2.2.1)), (h_x_ways_found, .inl (cI, 6347, .inl z5.2.2.2.2.2.2.2.2.2.2.2.2)), (h_x_measured, .inr (0, [.int x_measured_which, .int x_measured_x, .int x_measured_y, .int x_measured_row, .int x_measured_table])), (h_x_pairCounts, .inl (cI, 16, .inl x_pairCounts))]) hc m_X5_150 (c_X4_openBoth l D cI cS X F h_x_ways h_x_ways_stock h_x_ways_weight h_x_ways_known h_x_ways_found h_x_measured h_x_now h_x_now_book x_ways_measure x_ways_values x_ways_row x_ways_rowCodes x_ways_table x_ways_length x_ways_full x_ways_pairs x_ways_codes x_ways_stock x_ways_weight x_ways_known x_ways_found x_measured_which x_measured_x x_measured_y x_measured_row x_measured_table x_now_row x_now_table x_now_kept x_now_book a1 a2 hu6) 8 [8, 9, 10, 11, 12, 13, 1, 2] rfl rfl (rmok_of (Nat.le_of_ble_eq_true rfl)) ⟨Nat.zero_le _, Nat.zero_le _⟩ rfl rfl rfl rfl rfl ⟨rfl, rfl, rfl⟩ dX5_common_29 ?_
      refine G_aload_n hc dX5_common_32 rfl ?_
      refine G_get hc f_X5_37 0 rfl rfl dX5_common_33 ?_
      obtain ⟨z7, hu8, h⟩ := ob h
      refine G_callVI (ws2 := [(h_x, .inr (5, [.ref h_x_now, .ref h_past, .int x_pastStates, .ref h_x_text, .ref h_x_trial, .ref h_x_ways, .ref h_x_measured, .ref h_x_pairCounts])), (h_x_now, .inr (1, [.int x_now_row, .int x_now_table, .int x_now_kept, .ref h_x_now_book])), (h_x_now_book, .inl (cI, 8, .inl x_now_book)), (h_x_text, .inr (2, [.ref h_x_text_signs, .int x_text_length, .int x_text_word, .int x_text_kind, .int x_text_number, .int x_text_row, .int x_text_reached, .int x_text_broken])), (h_x_text_signs, .inl (cI, 60, .inl x_text_signs)), (h_x_trial, .inr (3, [.ref h_x_trial_state, .int x_trial_orders, .int x_trial_position, .int x_trial_reason, .int x_trial_cause])), (h_x_trial_state, .inr (1, [.int x_trial_state_row, .int x_trial_state_table, .int x_trial_state_kept, .ref h_x_trial_state_book])), (h_x_trial_state_book, .inl (cI, 8, .inl x_trial_state_book)), (h_x_ways, .inr (4, [.ref h_x_ways_stock, .ref h_x_ways_weight, .ref h_x_ways_known, .ref h_x_ways_found, nv z5.1 h_x_measured, .int z5.2.1, .int z5.2.2.1, .int z5.2.2.2.1, .int z5.2.2.2.2.1, .int z5.2.2.2.2.2.1, .int z5.2.2.2.2.2.2.1, .int z5.2.2.2.2.2.2.2.1, .int z5.2.2.2.2.2.2.2.2.1])), (h_x_ways_stock, .inl (cI, 16, .inl z5.2.2.2.2.2.2.2.2.2.1)), (h_x_ways_weight, .inl (cI, 16, .inl z5.2.2.2.2.2.2.2.2.2.2.1)), (h_x_ways_known, .inl (cI, 577, .inl z5.2.2.2.2.2.2.2.2.2.2.2.1)), (h_x_ways_found, .inl (cI, 6347, .inl z5.2.2.2.2.2.2.2.2.2.2.2.2)), (h_x_measured, .inr (0, [.int x_measured_which, .int x_measured_x, .int x_measured_y, .int x_measured_row, .int x_measured_table])), (h_x_pairCounts, .inl (cI, 16, .inl x_pairCounts))]) hc m_X5_108 (c_X4_total l D cI cS X F h_x_ways h_x_ways_stock h_x_ways_weight h_x_ways_known h_x_ways_found h_x_measured z5.1 z5.2.1 z5.2.2.1 z5.2.2.2.1 z5.2.2.2.2.1 z5.2.2.2.2.2.1 z5.2.2.2.2.2.2.1 z5.2.2.2.2.2.2.2.1 z5.2.2.2.2.2.2.2.2.1 z5.2.2.2.2.2.2.2.2.2.1 z5.2.2.2.2.2.2.2.2.2.2.1 z5.2.2.2.2.2.2.2.2.2.2.2.1 z5.2.2.2.2.2.2.2.2.2.2.2.2 x_measured_which x_measured_x x_measured_y x_measured_row x_measured_table hu8) 8 [8, 9, 10, 11, 12, 13] rfl rfl (rmok_of (Nat.le_of_ble_eq_true rfl)) ⟨Nat.zero_le _, Nat.zero_le _⟩ rfl rfl rfl rfl rfl ⟨rfl, rfl, rfl⟩ dX5_common_36 ?_
      have h := Option.some.inj h
      subst h
      exact G_ireturn hc ⟨rfl, rfl⟩ dX5_common_39
    · have h := ip h c9
      refine G_ldc (v := -1000001) hc k_X5_56 dX5_common_16 ?_
      have h := Option.some.inj h
      subst h
      exact G_ireturn hc ⟨rfl, rfl⟩ dX5_common_18
set_option maxHeartbeats 4000000 in
set_option maxRecDepth 100000 in
theorem c_X1_keptRow (l : Launch) (D : va_G) (cI cS : ClassId) (X : XP) (F : Nat) (h_s h_s_book : Nat) (s_row : Int32) (s_table : Int32) (s_kept : Int32) (s_book : Nat → Int32) (a1 : Int32) {res : Int32} (h : f_X1_keptRow F s_book a1 = some res) : CtI l D cI cS X yX1_keptRow cX1_keptRow 2 (some .int) 1 [.ref h_s, .int a1] [(h_s, .inr (1, [.int s_row, .int s_table, .int s_kept, .ref h_s_book])), (h_s_book, .inl (cI, 8, .inl s_book))] (PoI res [(h_s, .inr (1, [.int s_row, .int s_table, .int s_kept, .ref h_s_book])), (h_s_book, .inl (cI, 8, .inl s_book))]) := by
  refine CtI.of (by decide +kernel) rfl ?_
  intro p e s m below meth c A hc
  refine G_lv (lv' := [(0, .ref h_s), (1, .int a1)]) (lsame_cons rfl (lsame_cons rfl lsame_nil)) ?_
  unfold f_X1_keptRow at h
  refine G_iload_n hc dX1_keptRow_0 rfl ?_
  obtain ⟨t1, hr3, h⟩ := ob h
  have hj2 : G p l e (rmk 1) s m [.ref h_s, .int a1].toArray below meth c D A 2 0 0 (QI below [.ref h_s, .int a1].toArray s D A (PoI res [(h_s, .inr (1, [.int s_row, .int s_table, .int s_kept, .ref h_s_book])), (h_s_book, .inl (cI, 8, .inl s_book))])) [(h_s, .inr (1, [.int s_row, .int s_table, .int s_kept, .ref h_s_book])), (h_s_book, .inl (cI, 8, .inl s_book))] [] 23 [.int t1] := by
    have h := Option.some.inj h
    subst h
    exact G_ireturn hc ⟨rfl, rfl⟩ dX1_keptRow_23
  clear h
  have h := hr3
  clear hr3
  refine G_if_lt (tgt := 22) hc dX1_keptRow_1 (by decide) (fun c6 => ?_) (fun c6 => ?_)
  · have h := ip h c6
    refine G_iconst (v := 0) hc dX1_keptRow_22 (by decide) ?_
    have h := Option.some.inj h
    subst h
    refine G_lv (lv' := []) lsame_nil ?_
    exact hj2
  · have h := inn h c6
    refine G_iload_n hc dX1_keptRow_4 rfl ?_
    refine G_aload_n hc dX1_keptRow_5 rfl ?_
    refine G_get hc f_X1_15 0 rfl rfl dX1_keptRow_6 ?_
    refine G_alen (v := 8) hc 1 rfl (by decide) dX1_keptRow_9 ?_
    refine G_icmp_ge (tgt := 22) hc dX1_keptRow_10 (by decide) (fun c5 => ?_) (fun c5 => ?_)
    · have h := ip h c5
      refine G_iconst (v := 0) hc dX1_keptRow_22 (by decide) ?_
      have h := Option.some.inj h
      subst h
      refine G_lv (lv' := []) lsame_nil ?_
      exact hj2
    · have h := inn h c5
      refine G_aload_n hc dX1_keptRow_13 rfl ?_
      refine G_get hc f_X1_15 0 rfl rfl dX1_keptRow_14 ?_
      refine G_iload_n hc dX1_keptRow_17 rfl ?_
      obtain ⟨v4, i_v4, e_v4, h⟩ := rb h
      refine G_iald hc 1 rfl i_v4 e_v4 dX1_keptRow_18 ?_
      refine G_goto (tgt := 23) hc dX1_keptRow_19 (by decide) ?_
      have h := Option.some.inj h
      subst h
      refine G_lv (lv' := []) lsame_nil ?_
      exact hj2
set_option maxHeartbeats 4000000 in
set_option maxRecDepth 100000 in
theorem c_X5_sameLetters (l : Launch) (D : va_G) (cI cS : ClassId) (X : XP) (F : Nat) (a0 : Int32) (a1 : Int32) {res : Int32} (h : f_X5_sameLetters F a0 a1 = some res) : CtI l D cI cS X yX5_sameLetters cX5_sameLetters 3 (some .boolean) 3 [.int a0, .int a1] [] (PoI res []) := by
  refine CtI.of (by decide +kernel) rfl ?_
  intro p e s m below meth c A hc
  refine G_lv (lv' := [(0, .int a0), (1, .int a1)]) (lsame_cons rfl (lsame_cons rfl lsame_nil)) ?_
  unfold f_X5_sameLetters at h
  refine G_iconst (v := 0) hc dX5_sameLetters_0 (by decide) ?_
  refine G_istore_n (lv' := [(0, .int a0), (1, .int a1), (2, .int (0 : Int32))]) hc dX5_sameLetters_1 rfl rfl ?_
  obtain ⟨e2, hl3, h⟩ := ob h
  have hK7 : ∀ ax9, e2 = (Sum.inl ax9) → G p l e (rmk 3) s m [.int a0, .int a1].toArray below meth c D A 3 0 0 (QI below [.int a0, .int a1].toArray s D A (PoI res [])) [] [] 20 [] := by
    intro ax9 he
    subst he
    simp only [Sum.elim_inl, Sum.elim_inr] at h
    refine G_iconst (v := 0) hc dX5_sameLetters_20 (by decide) ?_
    have h := Option.some.inj h
    subst h
    exact G_zreturn hc (by decide) ⟨rfl, rfl⟩ dX5_sameLetters_21
  have hK8 : ∀ ax10, e2 = (Sum.inr ax10) → G p l e (rmk 3) s m [.int a0, .int a1].toArray below meth c D A 3 0 0 (QI below [.int a0, .int a1].toArray s D A (PoI res [])) [] [] 28 [] := by
    intro ax10 he
    subst he
    simp only [Sum.elim_inl, Sum.elim_inr] at h
    refine G_iconst (v := 1) hc dX5_sameLetters_28 (by decide) ?_
    have h := Option.some.inj h
    subst h
    exact G_zreturn hc (by decide) ⟨rfl, rfl⟩ dX5_sameLetters_29
  clear h
  have hL4 : ∀ (n5 : Nat) (u1 : Int32), f_X5_sameLetters_L2 F a0 a1 n5 u1 = some e2 → G p l e (rmk 3) s m [.int a0, .int a1].toArray below meth c D A 3 0 0 (QI below [.int a0, .int a1].toArray s D A (PoI res [])) [] [(0, .int a0), (1, .int a1), (2, .int u1)] 2 [] := by
    intro n5
    induction n5 with
    | zero =>
      intro u1 h
      exact nz h
    | succ n5 ih6 =>
      intro u1 h
      rw [f_X5_sameLetters_L2] at h
      refine G_iload_n hc dX5_sameLetters_2 rfl ?_
      refine G_iconst (v := 4) hc dX5_sameLetters_3 (by decide) ?_
      refine G_icmp_ge (tgt := 28) hc dX5_sameLetters_4 (by decide) (fun c17 => ?_) (fun c17 => ?_)
      · have h := ip h c17
        have h := Option.some.inj h
        subst h
        refine G_lv (lv' := []) lsame_nil ?_
        exact hK8 _ rfl
      · have h := inn h c17
        refine G_iload_n hc dX5_sameLetters_7 rfl ?_
        refine G_iload_n hc dX5_sameLetters_8 rfl ?_
        obtain ⟨z11, hu12, h⟩ := ob h
        refine G_callSI (ws2 := []) hc m_X5_98 (c_X5_lettersIn l D cI cS X F a0 u1 hu12) [] (rmok_of (Nat.le_of_ble_eq_true rfl)) ⟨Nat.zero_le _, Nat.zero_le _⟩ rfl rfl rfl rfl rfl ⟨rfl, rfl, rfl⟩ dX5_sameLetters_9 ?_
        refine G_iload_n hc dX5_sameLetters_12 rfl ?_
        refine G_iload_n hc dX5_sameLetters_13 rfl ?_
        obtain ⟨z13, hu14, h⟩ := ob h
        refine G_callSI (ws2 := []) hc m_X5_98 (c_X5_lettersIn l D cI cS X F a1 u1 hu14) [] (rmok_of (Nat.le_of_ble_eq_true rfl)) ⟨Nat.zero_le _, Nat.zero_le _⟩ rfl rfl rfl rfl rfl ⟨rfl, rfl, rfl⟩ dX5_sameLetters_14 ?_
        refine G_icmp_eq (tgt := 22) hc dX5_sameLetters_17 (by decide) (fun c16 => ?_) (fun c16 => ?_)
        · have h := ip h c16
          obtain ⟨v15, e_v15, h⟩ := sb h
          refine G_iinc (v := v15) (lv' := [(0, .int a0), (1, .int a1), (2, .int v15)]) hc dX5_sameLetters_22 rfl (e_v15.trans rfl) rfl rfl ?_
          refine G_goto (tgt := 2) hc dX5_sameLetters_25 (by decide) ?_
          refine G_lv (lv' := [(0, .int a0), (1, .int a1), (2, .int v15)]) (lsame_cons rfl (lsame_cons rfl (lsame_cons rfl lsame_nil))) ?_
          exact ih6 _ h
        · have h := inn h c16
          have h := Option.some.inj h
          subst h
          refine G_lv (lv' := []) lsame_nil ?_
          exact hK7 _ rfl
  refine G_lv (lv' := [(0, .int a0), (1, .int a1), (2, .int (0 : Int32))]) (lsame_cons rfl (lsame_cons rfl (lsame_cons rfl lsame_nil))) ?_
  exact hL4 F _ hl3
set_option maxHeartbeats 4000000 in
set_option maxRecDepth 100000 in
theorem c_X5_sameCodes (l : Launch) (D : va_G) (cI cS : ClassId) (X : XP) (F : Nat) (a0 : Int32) (a1 : Int32) (a2 : Int32) {res : Int32} (h : f_X5_sameCodes F a0 a1 a2 = some res) : CtI l D cI cS X yX5_sameCodes cX5_sameCodes 4 (some .boolean) 3 [.int a0, .int a1, .int a2] [] (PoI res []) := by
  refine CtI.of (by decide +kernel) rfl ?_
  intro p e s m below meth c A hc
  refine G_lv (lv' := [(0, .int a0), (1, .int a1), (2, .int a2)]) (lsame_cons rfl (lsame_cons rfl (lsame_cons rfl lsame_nil))) ?_
  unfold f_X5_sameCodes at h
  refine G_iconst (v := 1) hc dX5_sameCodes_0 (by decide) ?_
  refine G_istore_n (lv' := [(0, .int a0), (1, .int a1), (2, .int a2), (3, .int (1 : Int32))]) hc dX5_sameCodes_1 rfl rfl ?_
  obtain ⟨e2, hl3, h⟩ := ob h
  have hK7 : ∀ ax9, e2 = (Sum.inl ax9) → G p l e (rmk 3) s m [.int a0, .int a1, .int a2].toArray below meth c D A 4 0 0 (QI below [.int a0, .int a1, .int a2].toArray s D A (PoI res [])) [] [] 25 [] := by
    intro ax9 he
    subst he
    simp only [Sum.elim_inl, Sum.elim_inr] at h
    refine G_iconst (v := 0) hc dX5_sameCodes_25 (by decide) ?_
    have h := Option.some.inj h
    subst h
    exact G_zreturn hc (by decide) ⟨rfl, rfl⟩ dX5_sameCodes_26
  have hK8 : ∀ ax10, e2 = (Sum.inr ax10) → G p l e (rmk 3) s m [.int a0, .int a1, .int a2].toArray below meth c D A 4 0 0 (QI below [.int a0, .int a1, .int a2].toArray s D A (PoI res [])) [] [] 33 [] := by
    intro ax10 he
    subst he
    simp only [Sum.elim_inl, Sum.elim_inr] at h
    refine G_iconst (v := 1) hc dX5_sameCodes_33 (by decide) ?_
    have h := Option.some.inj h
    subst h
    exact G_zreturn hc (by decide) ⟨rfl, rfl⟩ dX5_sameCodes_34
  clear h
  have hL4 : ∀ (n5 : Nat) (u1 : Int32), f_X5_sameCodes_L2 F a0 a1 a2 n5 u1 = some e2 → G p l e (rmk 3) s m [.int a0, .int a1, .int a2].toArray below meth c D A 4 0 0 (QI below [.int a0, .int a1, .int a2].toArray s D A (PoI res [])) [] [(0, .int a0), (1, .int a1), (2, .int a2), (3, .int u1)] 2 [] := by
    intro n5
    induction n5 with
    | zero =>
      intro u1 h
      exact nz h
    | succ n5 ih6 =>
      intro u1 h
      rw [f_X5_sameCodes_L2] at h
      refine G_iload_n hc dX5_sameCodes_2 rfl ?_
      refine G_iload_n hc dX5_sameCodes_3 rfl ?_
      obtain ⟨z11, hu12, h⟩ := ob h
      refine G_callSI (ws2 := []) hc m_X5_61 (c_X5_lengthOf l D cI cS X F a1 hu12) [] (rmok_of (Nat.le_of_ble_eq_true rfl)) ⟨Nat.zero_le _, Nat.zero_le _⟩ rfl rfl rfl rfl rfl ⟨rfl, rfl, rfl⟩ dX5_sameCodes_4 ?_
      refine G_icmp_ge (tgt := 33) hc dX5_sameCodes_7 (by decide) (fun c19 => ?_) (fun c19 => ?_)
      · have h := ip h c19
        have h := Option.some.inj h
        subst h
        refine G_lv (lv' := []) lsame_nil ?_
        exact hK8 _ rfl
      · have h := inn h c19
        refine G_iload_n hc dX5_sameCodes_10 rfl ?_
        refine G_iload_n hc dX5_sameCodes_11 rfl ?_
        refine G_iload_n hc dX5_sameCodes_12 rfl ?_
        obtain ⟨z13, hu14, h⟩ := ob h
        refine G_callSI (ws2 := []) hc m_X5_229 (c_X5_wordCode l D cI cS X F a0 a1 u1 hu14) [] (rmok_of (Nat.le_of_ble_eq_true rfl)) ⟨Nat.zero_le _, Nat.zero_le _⟩ rfl rfl rfl rfl rfl ⟨rfl, rfl, rfl⟩ dX5_sameCodes_13 ?_
        refine G_iload_n hc dX5_sameCodes_16 rfl ?_
        refine G_iload_n hc dX5_sameCodes_17 rfl ?_
        refine G_iload_n hc dX5_sameCodes_18 rfl ?_
        obtain ⟨z15, hu16, h⟩ := ob h
        refine G_callSI (ws2 := []) hc m_X5_229 (c_X5_wordCode l D cI cS X F a0 a2 u1 hu16) [] (rmok_of (Nat.le_of_ble_eq_true rfl)) ⟨Nat.zero_le _, Nat.zero_le _⟩ rfl rfl rfl rfl rfl ⟨rfl, rfl, rfl⟩ dX5_sameCodes_19 ?_
        refine G_icmp_eq (tgt := 27) hc dX5_sameCodes_22 (by decide) (fun c18 => ?_) (fun c18 => ?_)
        · have h := ip h c18
          obtain ⟨v17, e_v17, h⟩ := sb h
          refine G_iinc (v := v17) (lv' := [(0, .int a0), (1, .int a1), (2, .int a2), (3, .int v17)]) hc dX5_sameCodes_27 rfl (e_v17.trans rfl) rfl rfl ?_
          refine G_goto (tgt := 2) hc dX5_sameCodes_30 (by decide) ?_
          refine G_lv (lv' := [(0, .int a0), (1, .int a1), (2, .int a2), (3, .int v17)]) (lsame_cons rfl (lsame_cons rfl (lsame_cons rfl (lsame_cons rfl lsame_nil)))) ?_
          exact ih6 _ h
        · have h := inn h c18
          have h := Option.some.inj h
          subst h
          refine G_lv (lv' := []) lsame_nil ?_
          exact hK7 _ rfl
  refine G_lv (lv' := [(0, .int a0), (1, .int a1), (2, .int a2), (3, .int (1 : Int32))]) (lsame_cons rfl (lsame_cons rfl (lsame_cons rfl (lsame_cons rfl lsame_nil)))) ?_
  exact hL4 F _ hl3
set_option maxHeartbeats 4000000 in
set_option maxRecDepth 100000 in
theorem c_X5_samePairs (l : Launch) (D : va_G) (cI cS : ClassId) (X : XP) (F : Nat) (a0 : Int32) (a1 : Int32) {res : Int32} (h : f_X5_samePairs F a0 a1 = some res) : CtI l D cI cS X yX5_samePairs cX5_samePairs 5 (some .boolean) 3 [.int a0, .int a1] [] (PoI res []) := by
  refine CtI.of (by decide +kernel) rfl ?_
  intro p e s m below meth c A hc
  refine G_lv (lv' := [(0, .int a0), (1, .int a1)]) (lsame_cons rfl (lsame_cons rfl lsame_nil)) ?_
  unfold f_X5_samePairs at h
  refine G_iconst (v := 0) hc dX5_samePairs_0 (by decide) ?_
  refine G_istore_n (lv' := [(0, .int a0), (1, .int a1), (2, .int (0 : Int32))]) hc dX5_samePairs_1 rfl rfl ?_
  obtain ⟨e2, hl3, h⟩ := ob h
  have hK7 : ∀ ax9, e2 = (Sum.inl ax9) → G p l e (rmk 3) s m [.int a0, .int a1].toArray below meth c D A 5 0 0 (QI below [.int a0, .int a1].toArray s D A (PoI res [])) [] [] 34 [] := by
    intro ax9 he
    subst he
    simp only [Sum.elim_inl, Sum.elim_inr] at h
    refine G_iconst (v := 0) hc dX5_samePairs_34 (by decide) ?_
    have h := Option.some.inj h
    subst h
    exact G_zreturn hc (by decide) ⟨rfl, rfl⟩ dX5_samePairs_35
  have hK8 : ∀ ax10, e2 = (Sum.inr ax10) → G p l e (rmk 3) s m [.int a0, .int a1].toArray below meth c D A 5 0 0 (QI below [.int a0, .int a1].toArray s D A (PoI res [])) [] [] 42 [] := by
    intro ax10 he
    subst he
    simp only [Sum.elim_inl, Sum.elim_inr] at h
    refine G_iconst (v := 1) hc dX5_samePairs_42 (by decide) ?_
    have h := Option.some.inj h
    subst h
    exact G_zreturn hc (by decide) ⟨rfl, rfl⟩ dX5_samePairs_43
  clear h
  have hL4 : ∀ (n5 : Nat) (u1 : Int32), f_X5_samePairs_L2 F a0 a1 n5 u1 = some e2 → G p l e (rmk 3) s m [.int a0, .int a1].toArray below meth c D A 5 0 0 (QI below [.int a0, .int a1].toArray s D A (PoI res [])) [] [(0, .int a0), (1, .int a1), (2, .int u1)] 2 [] := by
    intro n5
    induction n5 with
    | zero =>
      intro u1 h
      exact nz h
    | succ n5 ih6 =>
      intro u1 h
      rw [f_X5_samePairs_L2] at h
      refine G_iload_n hc dX5_samePairs_2 rfl ?_
      refine G_bipush (v := 16) hc dX5_samePairs_3 (by decide) ?_
      refine G_icmp_ge (tgt := 42) hc dX5_samePairs_5 (by decide) (fun c19 => ?_) (fun c19 => ?_)
      · have h := ip h c19
        have h := Option.some.inj h
        subst h
        refine G_lv (lv' := []) lsame_nil ?_
        exact hK8 _ rfl
      · have h := inn h c19
        refine G_iload_n hc dX5_samePairs_8 rfl ?_
        refine G_iconst (v := 4) hc dX5_samePairs_9 (by decide) ?_
        refine G_idiv hc dX5_samePairs_10 (by decide) ?_
        obtain ⟨v11, e_v11, h⟩ := sb h
        refine G_top e_v11 ?_
        refine G_istore_n (lv' := [(0, .int a0), (1, .int a1), (2, .int u1), (3, .int v11)]) hc dX5_samePairs_11 rfl rfl ?_
        refine G_iload_n hc dX5_samePairs_12 rfl ?_
        refine G_iconst (v := 4) hc dX5_samePairs_13 (by decide) ?_
        refine G_irem hc dX5_samePairs_14 (by decide) ?_
        obtain ⟨v12, e_v12, h⟩ := sb h
        refine G_top e_v12 ?_
        refine G_istore (lv' := [(0, .int a0), (1, .int a1), (2, .int u1), (3, .int v11), (4, .int v12)]) hc dX5_samePairs_15 rfl rfl ?_
        refine G_iload_n hc dX5_samePairs_17 rfl ?_
        refine G_iload_n hc dX5_samePairs_18 rfl ?_
        refine G_iload hc dX5_samePairs_19 rfl ?_
        obtain ⟨z13, hu14, h⟩ := ob h
        refine G_callSI (ws2 := []) hc m_X5_92 (c_X5_pairsIn l D cI cS X F a0 v11 v12 hu14) [] (rmok_of (Nat.le_of_ble_eq_true rfl)) ⟨Nat.zero_le _, Nat.zero_le _⟩ rfl rfl rfl rfl rfl ⟨rfl, rfl, rfl⟩ dX5_samePairs_21 ?_
        refine G_iload_n hc dX5_samePairs_24 rfl ?_
        refine G_iload_n hc dX5_samePairs_25 rfl ?_
        refine G_iload hc dX5_samePairs_26 rfl ?_
        obtain ⟨z15, hu16, h⟩ := ob h
        refine G_callSI (ws2 := []) hc m_X5_92 (c_X5_pairsIn l D cI cS X F a1 v11 v12 hu16) [] (rmok_of (Nat.le_of_ble_eq_true rfl)) ⟨Nat.zero_le _, Nat.zero_le _⟩ rfl rfl rfl rfl rfl ⟨rfl, rfl, rfl⟩ dX5_samePairs_28 ?_
        refine G_icmp_eq (tgt := 36) hc dX5_samePairs_31 (by decide) (fun c18 => ?_) (fun c18 => ?_)
        · have h := ip h c18
          obtain ⟨v17, e_v17, h⟩ := sb h
          refine G_iinc (v := v17) (lv' := [(0, .int a0), (1, .int a1), (2, .int v17), (3, .int v11), (4, .int v12)]) hc dX5_samePairs_36 rfl (e_v17.trans rfl) rfl rfl ?_
          refine G_goto (tgt := 2) hc dX5_samePairs_39 (by decide) ?_
          refine G_lv (lv' := [(0, .int a0), (1, .int a1), (2, .int v17)]) (lsame_cons rfl (lsame_cons rfl (lsame_cons rfl lsame_nil))) ?_
          exact ih6 _ h
        · have h := inn h c18
          have h := Option.some.inj h
          subst h
          refine G_lv (lv' := []) lsame_nil ?_
          exact hK7 _ rfl
  refine G_lv (lv' := [(0, .int a0), (1, .int a1), (2, .int (0 : Int32))]) (lsame_cons rfl (lsame_cons rfl (lsame_cons rfl lsame_nil))) ?_
  exact hL4 F _ hl3
set_option maxHeartbeats 4000000 in
set_option maxRecDepth 100000 in
theorem c_X5_isShuffle (l : Launch) (D : va_G) (cI cS : ClassId) (X : XP) (F : Nat) (h_x h_x_now h_x_now_book h_x_text h_x_text_signs h_x_trial h_x_trial_state h_x_trial_state_book h_x_ways h_x_ways_stock h_x_ways_weight h_x_ways_known h_x_ways_found h_x_measured h_x_pairCounts h_past : Nat) (x_pastStates : Int32) (x_now_row : Int32) (x_now_table : Int32) (x_now_kept : Int32) (x_now_book : Nat → Int32) (x_text_length : Int32) (x_text_word : Int32) (x_text_kind : Int32) (x_text_number : Int32) (x_text_row : Int32) (x_text_reached : Int32) (x_text_broken : Int32) (x_text_signs : Nat → Int32) (x_trial_orders : Int32) (x_trial_position : Int32) (x_trial_reason : Int32) (x_trial_cause : Int32) (x_trial_state_row : Int32) (x_trial_state_table : Int32) (x_trial_state_kept : Int32) (x_trial_state_book : Nat → Int32) (x_ways_measure : Bool) (x_ways_values : Int32) (x_ways_row : Int32) (x_ways_rowCodes : Int32) (x_ways_table : Int32) (x_ways_length : Int32) (x_ways_full : Int32) (x_ways_pairs : Int32) (x_ways_codes : Int32) (x_ways_stock : Nat → Int32) (x_ways_weight : Nat → Int32) (x_ways_known : Nat → Int32) (x_ways_found : Nat → Int32) (x_measured_which : Int32) (x_measured_x : Int32) (x_measured_y : Int32) (x_measured_row : Int32) (x_measured_table : Int32) (x_pairCounts : Nat → Int32) (a1 : Int32) (a2 : Int32) {res : Int32} (h : f_X5_isShuffle F x_now_row x_now_table a1 a2 = some res) : CtI l D cI cS X yX5_isShuffle cX5_isShuffle 3 (some .boolean) 4 [.ref h_x, .int a1, .int a2] [(h_x, .inr (5, [.ref h_x_now, .ref h_past, .int x_pastStates, .ref h_x_text, .ref h_x_trial, .ref h_x_ways, .ref h_x_measured, .ref h_x_pairCounts])), (h_x_now, .inr (1, [.int x_now_row, .int x_now_table, .int x_now_kept, .ref h_x_now_book])), (h_x_now_book, .inl (cI, 8, .inl x_now_book)), (h_x_text, .inr (2, [.ref h_x_text_signs, .int x_text_length, .int x_text_word, .int x_text_kind, .int x_text_number, .int x_text_row, .int x_text_reached, .int x_text_broken])), (h_x_text_signs, .inl (cI, 60, .inl x_text_signs)), (h_x_trial, .inr (3, [.ref h_x_trial_state, .int x_trial_orders, .int x_trial_position, .int x_trial_reason, .int x_trial_cause])), (h_x_trial_state, .inr (1, [.int x_trial_state_row, .int x_trial_state_table, .int x_trial_state_kept, .ref h_x_trial_state_book])), (h_x_trial_state_book, .inl (cI, 8, .inl x_trial_state_book)), (h_x_ways, .inr (4, [.ref h_x_ways_stock, .ref h_x_ways_weight, .ref h_x_ways_known, .ref h_x_ways_found, nv x_ways_measure h_x_measured, .int x_ways_values, .int x_ways_row, .int x_ways_rowCodes, .int x_ways_table, .int x_ways_length, .int x_ways_full, .int x_ways_pairs, .int x_ways_codes])), (h_x_ways_stock, .inl (cI, 16, .inl x_ways_stock)), (h_x_ways_weight, .inl (cI, 16, .inl x_ways_weight)), (h_x_ways_known, .inl (cI, 577, .inl x_ways_known)), (h_x_ways_found, .inl (cI, 6347, .inl x_ways_found)), (h_x_measured, .inr (0, [.int x_measured_which, .int x_measured_x, .int x_measured_y, .int x_measured_row, .int x_measured_table])), (h_x_pairCounts, .inl (cI, 16, .inl x_pairCounts))] (PoI res [(h_x, .inr (5, [.ref h_x_now, .ref h_past, .int x_pastStates, .ref h_x_text, .ref h_x_trial, .ref h_x_ways, .ref h_x_measured, .ref h_x_pairCounts])), (h_x_now, .inr (1, [.int x_now_row, .int x_now_table, .int x_now_kept, .ref h_x_now_book])), (h_x_now_book, .inl (cI, 8, .inl x_now_book)), (h_x_text, .inr (2, [.ref h_x_text_signs, .int x_text_length, .int x_text_word, .int x_text_kind, .int x_text_number, .int x_text_row, .int x_text_reached, .int x_text_broken])), (h_x_text_signs, .inl (cI, 60, .inl x_text_signs)), (h_x_trial, .inr (3, [.ref h_x_trial_state, .int x_trial_orders, .int x_trial_position, .int x_trial_reason, .int x_trial_cause])), (h_x_trial_state, .inr (1, [.int x_trial_state_row, .int x_trial_state_table, .int x_trial_state_kept, .ref h_x_trial_state_book])), (h_x_trial_state_book, .inl (cI, 8, .inl x_trial_state_book)), (h_x_ways, .inr (4, [.ref h_x_ways_stock, .ref h_x_ways_weight, .ref h_x_ways_known, .ref h_x_ways_found, nv x_ways_measure h_x_measured, .int x_ways_values, .int x_ways_row, .int x_ways_rowCodes, .int x_ways_table, .int x_ways_length, .int x_ways_full, .int x_ways_pairs, .int x_ways_codes])), (h_x_ways_stock, .inl (cI, 16, .inl x_ways_stock)), (h_x_ways_weight, .inl (cI, 16, .inl x_ways_weight)), (h_x_ways_known, .inl (cI, 577, .inl x_ways_known)), (h_x_ways_found, .inl (cI, 6347, .inl x_ways_found)), (h_x_measured, .inr (0, [.int x_measured_which, .int x_measured_x, .int x_measured_y, .int x_measured_row, .int x_measured_table])), (h_x_pairCounts, .inl (cI, 16, .inl x_pairCounts))]) := by
  refine CtI.of (by decide +kernel) rfl ?_
  intro p e s m below meth c A hc
  refine G_lv (lv' := [(0, .ref h_x), (1, .int a1), (2, .int a2)]) (lsame_cons rfl (lsame_cons rfl (lsame_cons rfl lsame_nil))) ?_
  unfold f_X5_isShuffle at h
  refine G_aload_n hc dX5_isShuffle_0 rfl ?_
  refine G_get hc f_X5_10 0 rfl rfl dX5_isShuffle_1 ?_
  refine G_get hc f_X5_57 1 rfl rfl dX5_isShuffle_4 ?_
  refine G_iload_n hc dX5_isShuffle_7 rfl ?_
  obtain ⟨z1, hu2, h⟩ := ob h
  refine G_callSI (ws2 := [(h_x, .inr (5, [.ref h_x_now, .ref h_past, .int x_pastStates, .ref h_x_text, .ref h_x_trial, .ref h_x_ways, .ref h_x_measured, .ref h_x_pairCounts])), (h_x_now, .inr (1, [.int x_now_row, .int x_now_table, .int x_now_kept, .ref h_x_now_book])), (h_x_now_book, .inl (cI, 8, .inl x_now_book)), (h_x_text, .inr (2, [.ref h_x_text_signs, .int x_text_length, .int x_text_word, .int x_text_kind, .int x_text_number, .int x_text_row, .int x_text_reached, .int x_text_broken])), (h_x_text_signs, .inl (cI, 60, .inl x_text_signs)), (h_x_trial, .inr (3, [.ref h_x_trial_state, .int x_trial_orders, .int x_trial_position, .int x_trial_reason, .int x_trial_cause])), (h_x_trial_state, .inr (1, [.int x_trial_state_row, .int x_trial_state_table, .int x_trial_state_kept, .ref h_x_trial_state_book])), (h_x_trial_state_book, .inl (cI, 8, .inl x_trial_state_book)), (h_x_ways, .inr (4, [.ref h_x_ways_stock, .ref h_x_ways_weight, .ref h_x_ways_known, .ref h_x_ways_found, nv x_ways_measure h_x_measured, .int x_ways_values, .int x_ways_row, .int x_ways_rowCodes, .int x_ways_table, .int x_ways_length, .int x_ways_full, .int x_ways_pairs, .int x_ways_codes])), (h_x_ways_stock, .inl (cI, 16, .inl x_ways_stock)), (h_x_ways_weight, .inl (cI, 16, .inl x_ways_weight)), (h_x_ways_known, .inl (cI, 577, .inl x_ways_known)), (h_x_ways_found, .inl (cI, 6347, .inl x_ways_found)), (h_x_measured, .inr (0, [.int x_measured_which, .int x_measured_x, .int x_measured_y, .int x_measured_row, .int x_measured_table])), (h_x_pairCounts, .inl (cI, 16, .inl x_pairCounts))]) hc m_X5_211 (c_X5_sameLetters l D cI cS X F x_now_row a2 hu2) [] (rmok_of (Nat.le_of_ble_eq_true rfl)) ⟨Nat.zero_le _, Nat.zero_le _⟩ rfl rfl rfl rfl rfl ⟨rfl, rfl, rfl⟩ dX5_isShuffle_8 ?_
  refine G_if_ne (tgt := 16) hc dX5_isShuffle_11 (by decide) (fun c61 => ?_) (fun c61 => ?_)
  · have h := inn h c61
    refine G_iload_n hc dX5_isShuffle_16 rfl ?_
    obtain ⟨z3, hu4, h⟩ := ob h
    refine G_callSI (ws2 := [(h_x, .inr (5, [.ref h_x_now, .ref h_past, .int x_pastStates, .ref h_x_text, .ref h_x_trial, .ref h_x_ways, .ref h_x_measured, .ref h_x_pairCounts])), (h_x_now, .inr (1, [.int x_now_row, .int x_now_table, .int x_now_kept, .ref h_x_now_book])), (h_x_now_book, .inl (cI, 8, .inl x_now_book)), (h_x_text, .inr (2, [.ref h_x_text_signs, .int x_text_length, .int x_text_word, .int x_text_kind, .int x_text_number, .int x_text_row, .int x_text_reached, .int x_text_broken])), (h_x_text_signs, .inl (cI, 60, .inl x_text_signs)), (h_x_trial, .inr (3, [.ref h_x_trial_state, .int x_trial_orders, .int x_trial_position, .int x_trial_reason, .int x_trial_cause])), (h_x_trial_state, .inr (1, [.int x_trial_state_row, .int x_trial_state_table, .int x_trial_state_kept, .ref h_x_trial_state_book])), (h_x_trial_state_book, .inl (cI, 8, .inl x_trial_state_book)), (h_x_ways, .inr (4, [.ref h_x_ways_stock, .ref h_x_ways_weight, .ref h_x_ways_known, .ref h_x_ways_found, nv x_ways_measure h_x_measured, .int x_ways_values, .int x_ways_row, .int x_ways_rowCodes, .int x_ways_table, .int x_ways_length, .int x_ways_full, .int x_ways_pairs, .int x_ways_codes])), (h_x_ways_stock, .inl (cI, 16, .inl x_ways_stock)), (h_x_ways_weight, .inl (cI, 16, .inl x_ways_weight)), (h_x_ways_known, .inl (cI, 577, .inl x_ways_known)), (h_x_ways_found, .inl (cI, 6347, .inl x_ways_found)), (h_x_measured, .inr (0, [.int x_measured_which, .int x_measured_x, .int x_measured_y, .int x_measured_row, .int x_measured_table])), (h_x_pairCounts, .inl (cI, 16, .inl x_pairCounts))]) hc m_X5_214 (c_X5_keepsPairs l D cI cS X F a1 hu4) [] (rmok_of (Nat.le_of_ble_eq_true rfl)) ⟨Nat.zero_le _, Nat.zero_le _⟩ rfl rfl rfl rfl rfl ⟨rfl, rfl, rfl⟩ dX5_isShuffle_17 ?_
    refine G_if_eq (tgt := 39) hc dX5_isShuffle_20 (by decide) (fun c60 => ?_) (fun c60 => ?_)
    · have h := ip h c60
      refine G_iload_n hc dX5_isShuffle_39 rfl ?_
      refine G_iconst (v := 2) hc dX5_isShuffle_40 (by decide) ?_
      refine G_icmp_ne (tgt := 65) hc dX5_isShuffle_41 (by decide) (fun c30 => ?_) (fun c30 => ?_)
      · have h := inn h c30
        refine G_iload_n hc dX5_isShuffle_65 rfl ?_
        obtain ⟨z5, hu6, h⟩ := ob h
        refine G_callSI (ws2 := [(h_x, .inr (5, [.ref h_x_now, .ref h_past, .int x_pastStates, .ref h_x_text, .ref h_x_trial, .ref h_x_ways, .ref h_x_measured, .ref h_x_pairCounts])), (h_x_now, .inr (1, [.int x_now_row, .int x_now_table, .int x_now_kept, .ref h_x_now_book])), (h_x_now_book, .inl (cI, 8, .inl x_now_book)), (h_x_text, .inr (2, [.ref h_x_text_signs, .int x_text_length, .int x_text_word, .int x_text_kind, .int x_text_number, .int x_text_row, .int x_text_reached, .int x_text_broken])), (h_x_text_signs, .inl (cI, 60, .inl x_text_signs)), (h_x_trial, .inr (3, [.ref h_x_trial_state, .int x_trial_orders, .int x_trial_position, .int x_trial_reason, .int x_trial_cause])), (h_x_trial_state, .inr (1, [.int x_trial_state_row, .int x_trial_state_table, .int x_trial_state_kept, .ref h_x_trial_state_book])), (h_x_trial_state_book, .inl (cI, 8, .inl x_trial_state_book)), (h_x_ways, .inr (4, [.ref h_x_ways_stock, .ref h_x_ways_weight, .ref h_x_ways_known, .ref h_x_ways_found, nv x_ways_measure h_x_measured, .int x_ways_values, .int x_ways_row, .int x_ways_rowCodes, .int x_ways_table, .int x_ways_length, .int x_ways_full, .int x_ways_pairs, .int x_ways_codes])), (h_x_ways_stock, .inl (cI, 16, .inl x_ways_stock)), (h_x_ways_weight, .inl (cI, 16, .inl x_ways_weight)), (h_x_ways_known, .inl (cI, 577, .inl x_ways_known)), (h_x_ways_found, .inl (cI, 6347, .inl x_ways_found)), (h_x_measured, .inr (0, [.int x_measured_which, .int x_measured_x, .int x_measured_y, .int x_measured_row, .int x_measured_table])), (h_x_pairCounts, .inl (cI, 16, .inl x_pairCounts))]) hc m_X5_221 (c_X5_keepsCodes l D cI cS X F a1 hu6) [] (rmok_of (Nat.le_of_ble_eq_true rfl)) ⟨Nat.zero_le _, Nat.zero_le _⟩ rfl rfl rfl rfl rfl ⟨rfl, rfl, rfl⟩ dX5_isShuffle_66 ?_
        obtain ⟨t7, hr9, h⟩ := ob h
        have hj8 : G p l e (rmk 4) s m [.ref h_x, .int a1, .int a2].toArray below meth c D A 3 0 0 (QI below [.ref h_x, .int a1, .int a2].toArray s D A (PoI res [(h_x, .inr (5, [.ref h_x_now, .ref h_past, .int x_pastStates, .ref h_x_text, .ref h_x_trial, .ref h_x_ways, .ref h_x_measured, .ref h_x_pairCounts])), (h_x_now, .inr (1, [.int x_now_row, .int x_now_table, .int x_now_kept, .ref h_x_now_book])), (h_x_now_book, .inl (cI, 8, .inl x_now_book)), (h_x_text, .inr (2, [.ref h_x_text_signs, .int x_text_length, .int x_text_word, .int x_text_kind, .int x_text_number, .int x_text_row, .int x_text_reached, .int x_text_broken])), (h_x_text_signs, .inl (cI, 60, .inl x_text_signs)), (h_x_trial, .inr (3, [.ref h_x_trial_state, .int x_trial_orders, .int x_trial_position, .int x_trial_reason, .int x_trial_cause])), (h_x_trial_state, .inr (1, [.int x_trial_state_row, .int x_trial_state_table, .int x_trial_state_kept, .ref h_x_trial_state_book])), (h_x_trial_state_book, .inl (cI, 8, .inl x_trial_state_book)), (h_x_ways, .inr (4, [.ref h_x_ways_stock, .ref h_x_ways_weight, .ref h_x_ways_known, .ref h_x_ways_found, nv x_ways_measure h_x_measured, .int x_ways_values, .int x_ways_row, .int x_ways_rowCodes, .int x_ways_table, .int x_ways_length, .int x_ways_full, .int x_ways_pairs, .int x_ways_codes])), (h_x_ways_stock, .inl (cI, 16, .inl x_ways_stock)), (h_x_ways_weight, .inl (cI, 16, .inl x_ways_weight)), (h_x_ways_known, .inl (cI, 577, .inl x_ways_known)), (h_x_ways_found, .inl (cI, 6347, .inl x_ways_found)), (h_x_measured, .inr (0, [.int x_measured_which, .int x_measured_x, .int x_measured_y, .int x_measured_row, .int x_measured_table])), (h_x_pairCounts, .inl (cI, 16, .inl x_pairCounts))])) [(h_x, .inr (5, [.ref h_x_now, .ref h_past, .int x_pastStates, .ref h_x_text, .ref h_x_trial, .ref h_x_ways, .ref h_x_measured, .ref h_x_pairCounts])), (h_x_now, .inr (1, [.int x_now_row, .int x_now_table, .int x_now_kept, .ref h_x_now_book])), (h_x_now_book, .inl (cI, 8, .inl x_now_book)), (h_x_text, .inr (2, [.ref h_x_text_signs, .int x_text_length, .int x_text_word, .int x_text_kind, .int x_text_number, .int x_text_row, .int x_text_reached, .int x_text_broken])), (h_x_text_signs, .inl (cI, 60, .inl x_text_signs)), (h_x_trial, .inr (3, [.ref h_x_trial_state, .int x_trial_orders, .int x_trial_position, .int x_trial_reason, .int x_trial_cause])), (h_x_trial_state, .inr (1, [.int x_trial_state_row, .int x_trial_state_table, .int x_trial_state_kept, .ref h_x_trial_state_book])), (h_x_trial_state_book, .inl (cI, 8, .inl x_trial_state_book)), (h_x_ways, .inr (4, [.ref h_x_ways_stock, .ref h_x_ways_weight, .ref h_x_ways_known, .ref h_x_ways_found, nv x_ways_measure h_x_measured, .int x_ways_values, .int x_ways_row, .int x_ways_rowCodes, .int x_ways_table, .int x_ways_length, .int x_ways_full, .int x_ways_pairs, .int x_ways_codes])), (h_x_ways_stock, .inl (cI, 16, .inl x_ways_stock)), (h_x_ways_weight, .inl (cI, 16, .inl x_ways_weight)), (h_x_ways_known, .inl (cI, 577, .inl x_ways_known)), (h_x_ways_found, .inl (cI, 6347, .inl x_ways_found)), (h_x_measured, .inr (0, [.int x_measured_which, .int x_measured_x, .int x_measured_y, .int x_measured_row, .int x_measured_table])), (h_x_pairCounts, .inl (cI, 16, .inl x_pairCounts))] [] 98 [.int t7] := by
          obtain ⟨hz14, h⟩ := zb h
          have h := Option.some.inj h
          subst h
          exact G_zreturn hc hz14 ⟨rfl, rfl⟩ dX5_isShuffle_98
        clear h
        have h := hr9
        clear hr9
        refine G_if_eq (tgt := 93) hc dX5_isShuffle_69 (by decide) (fun c13 => ?_) (fun c13 => ?_)
        · have h := ip h c13
          refine G_iconst (v := 1) hc dX5_isShuffle_93 (by decide) ?_
          refine G_goto (tgt := 98) hc dX5_isShuffle_94 (by decide) ?_
          have h := Option.some.inj h
          subst h
          refine G_lv (lv' := []) lsame_nil ?_
          exact hj8
        · have h := inn h c13
          refine G_aload_n hc dX5_isShuffle_72 rfl ?_
          refine G_get hc f_X5_10 0 rfl rfl dX5_isShuffle_73 ?_
          refine G_get hc f_X5_73 1 rfl rfl dX5_isShuffle_76 ?_
          refine G_aload_n hc dX5_isShuffle_79 rfl ?_
          refine G_get hc f_X5_10 0 rfl rfl dX5_isShuffle_80 ?_
          refine G_get hc f_X5_57 1 rfl rfl dX5_isShuffle_83 ?_
          refine G_iload_n hc dX5_isShuffle_86 rfl ?_
          obtain ⟨z10, hu11, h⟩ := ob h
          refine G_callSI (ws2 := [(h_x, .inr (5, [.ref h_x_now, .ref h_past, .int x_pastStates, .ref h_x_text, .ref h_x_trial, .ref h_x_ways, .ref h_x_measured, .ref h_x_pairCounts])), (h_x_now, .inr (1, [.int x_now_row, .int x_now_table, .int x_now_kept, .ref h_x_now_book])), (h_x_now_book, .inl (cI, 8, .inl x_now_book)), (h_x_text, .inr (2, [.ref h_x_text_signs, .int x_text_length, .int x_text_word, .int x_text_kind, .int x_text_number, .int x_text_row, .int x_text_reached, .int x_text_broken])), (h_x_text_signs, .inl (cI, 60, .inl x_text_signs)), (h_x_trial, .inr (3, [.ref h_x_trial_state, .int x_trial_orders, .int x_trial_position, .int x_trial_reason, .int x_trial_cause])), (h_x_trial_state, .inr (1, [.int x_trial_state_row, .int x_trial_state_table, .int x_trial_state_kept, .ref h_x_trial_state_book])), (h_x_trial_state_book, .inl (cI, 8, .inl x_trial_state_book)), (h_x_ways, .inr (4, [.ref h_x_ways_stock, .ref h_x_ways_weight, .ref h_x_ways_known, .ref h_x_ways_found, nv x_ways_measure h_x_measured, .int x_ways_values, .int x_ways_row, .int x_ways_rowCodes, .int x_ways_table, .int x_ways_length, .int x_ways_full, .int x_ways_pairs, .int x_ways_codes])), (h_x_ways_stock, .inl (cI, 16, .inl x_ways_stock)), (h_x_ways_weight, .inl (cI, 16, .inl x_ways_weight)), (h_x_ways_known, .inl (cI, 577, .inl x_ways_known)), (h_x_ways_found, .inl (cI, 6347, .inl x_ways_found)), (h_x_measured, .inr (0, [.int x_measured_which, .int x_measured_x, .int x_measured_y, .int x_measured_row, .int x_measured_table])), (h_x_pairCounts, .inl (cI, 16, .inl x_pairCounts))]) hc m_X5_224 (c_X5_sameCodes l D cI cS X F x_now_table x_now_row a2 hu11) [] (rmok_of (Nat.le_of_ble_eq_true rfl)) ⟨Nat.zero_le _, Nat.zero_le _⟩ rfl rfl rfl rfl rfl ⟨rfl, rfl, rfl⟩ dX5_isShuffle_87 ?_
          refine G_if_eq (tgt := 97) hc dX5_isShuffle_90 (by decide) (fun c12 => ?_) (fun c12 => ?_)
          · have h := ip h c12
            refine G_iconst (v := 0) hc dX5_isShuffle_97 (by decide) ?_
            have h := Option.some.inj h
            subst h
            refine G_lv (lv' := []) lsame_nil ?_
            exact hj8
          · have h := inn h c12
            refine G_iconst (v := 1) hc dX5_isShuffle_93 (by decide) ?_
            refine G_goto (tgt := 98) hc dX5_isShuffle_94 (by decide) ?_
            have h := Option.some.inj h
            subst h
            refine G_lv (lv' := []) lsame_nil ?_
            exact hj8
      · have h := ip h c30
        refine G_aload_n hc dX5_isShuffle_44 rfl ?_
        refine G_get hc f_X5_10 0 rfl rfl dX5_isShuffle_45 ?_
        refine G_get hc f_X5_57 1 rfl rfl dX5_isShuffle_48 ?_
        refine G_iconst (v := 0) hc dX5_isShuffle_51 (by decide) ?_
        obtain ⟨z15, hu16, h⟩ := ob h
        refine G_callSI (ws2 := [(h_x, .inr (5, [.ref h_x_now, .ref h_past, .int x_pastStates, .ref h_x_text, .ref h_x_trial, .ref h_x_ways, .ref h_x_measured, .ref h_x_pairCounts])), (h_x_now, .inr (1, [.int x_now_row, .int x_now_table, .int x_now_kept, .ref h_x_now_book])), (h_x_now_book, .inl (cI, 8, .inl x_now_book)), (h_x_text, .inr (2, [.ref h_x_text_signs, .int x_text_length, .int x_text_word, .int x_text_kind, .int x_text_number, .int x_text_row, .int x_text_reached, .int x_text_broken])), (h_x_text_signs, .inl (cI, 60, .inl x_text_signs)), (h_x_trial, .inr (3, [.ref h_x_trial_state, .int x_trial_orders, .int x_trial_position, .int x_trial_reason, .int x_trial_cause])), (h_x_trial_state, .inr (1, [.int x_trial_state_row, .int x_trial_state_table, .int x_trial_state_kept, .ref h_x_trial_state_book])), (h_x_trial_state_book, .inl (cI, 8, .inl x_trial_state_book)), (h_x_ways, .inr (4, [.ref h_x_ways_stock, .ref h_x_ways_weight, .ref h_x_ways_known, .ref h_x_ways_found, nv x_ways_measure h_x_measured, .int x_ways_values, .int x_ways_row, .int x_ways_rowCodes, .int x_ways_table, .int x_ways_length, .int x_ways_full, .int x_ways_pairs, .int x_ways_codes])), (h_x_ways_stock, .inl (cI, 16, .inl x_ways_stock)), (h_x_ways_weight, .inl (cI, 16, .inl x_ways_weight)), (h_x_ways_known, .inl (cI, 577, .inl x_ways_known)), (h_x_ways_found, .inl (cI, 6347, .inl x_ways_found)), (h_x_measured, .inr (0, [.int x_measured_which, .int x_measured_x, .int x_measured_y, .int x_measured_row, .int x_measured_table])), (h_x_pairCounts, .inl (cI, 16, .inl x_pairCounts))]) hc m_X5_88 (c_X5_letterOf l D cI cS X F x_now_row (0 : Int32) hu16) [] (rmok_of (Nat.le_of_ble_eq_true rfl)) ⟨Nat.zero_le _, Nat.zero_le _⟩ rfl rfl rfl rfl rfl ⟨rfl, rfl, rfl⟩ dX5_isShuffle_52 ?_
        refine G_iload_n hc dX5_isShuffle_55 rfl ?_
        refine G_iconst (v := 0) hc dX5_isShuffle_56 (by decide) ?_
        obtain ⟨z17, hu18, h⟩ := ob h
        refine G_callSI (ws2 := [(h_x, .inr (5, [.ref h_x_now, .ref h_past, .int x_pastStates, .ref h_x_text, .ref h_x_trial, .ref h_x_ways, .ref h_x_measured, .ref h_x_pairCounts])), (h_x_now, .inr (1, [.int x_now_row, .int x_now_table, .int x_now_kept, .ref h_x_now_book])), (h_x_now_book, .inl (cI, 8, .inl x_now_book)), (h_x_text, .inr (2, [.ref h_x_text_signs, .int x_text_length, .int x_text_word, .int x_text_kind, .int x_text_number, .int x_text_row, .int x_text_reached, .int x_text_broken])), (h_x_text_signs, .inl (cI, 60, .inl x_text_signs)), (h_x_trial, .inr (3, [.ref h_x_trial_state, .int x_trial_orders, .int x_trial_position, .int x_trial_reason, .int x_trial_cause])), (h_x_trial_state, .inr (1, [.int x_trial_state_row, .int x_trial_state_table, .int x_trial_state_kept, .ref h_x_trial_state_book])), (h_x_trial_state_book, .inl (cI, 8, .inl x_trial_state_book)), (h_x_ways, .inr (4, [.ref h_x_ways_stock, .ref h_x_ways_weight, .ref h_x_ways_known, .ref h_x_ways_found, nv x_ways_measure h_x_measured, .int x_ways_values, .int x_ways_row, .int x_ways_rowCodes, .int x_ways_table, .int x_ways_length, .int x_ways_full, .int x_ways_pairs, .int x_ways_codes])), (h_x_ways_stock, .inl (cI, 16, .inl x_ways_stock)), (h_x_ways_weight, .inl (cI, 16, .inl x_ways_weight)), (h_x_ways_known, .inl (cI, 577, .inl x_ways_known)), (h_x_ways_found, .inl (cI, 6347, .inl x_ways_found)), (h_x_measured, .inr (0, [.int x_measured_which, .int x_measured_x, .int x_measured_y, .int x_measured_row, .int x_measured_table])), (h_x_pairCounts, .inl (cI, 16, .inl x_pairCounts))]) hc m_X5_88 (c_X5_letterOf l D cI cS X F a2 (0 : Int32) hu18) [] (rmok_of (Nat.le_of_ble_eq_true rfl)) ⟨Nat.zero_le _, Nat.zero_le _⟩ rfl rfl rfl rfl rfl ⟨rfl, rfl, rfl⟩ dX5_isShuffle_57 ?_
        refine G_icmp_eq (tgt := 65) hc dX5_isShuffle_60 (by decide) (fun c29 => ?_) (fun c29 => ?_)
        · have h := ip h c29
          refine G_iload_n hc dX5_isShuffle_65 rfl ?_
          obtain ⟨z19, hu20, h⟩ := ob h
          refine G_callSI (ws2 := [(h_x, .inr (5, [.ref h_x_now, .ref h_past, .int x_pastStates, .ref h_x_text, .ref h_x_trial, .ref h_x_ways, .ref h_x_measured, .ref h_x_pairCounts])), (h_x_now, .inr (1, [.int x_now_row, .int x_now_table, .int x_now_kept, .ref h_x_now_book])), (h_x_now_book, .inl (cI, 8, .inl x_now_book)), (h_x_text, .inr (2, [.ref h_x_text_signs, .int x_text_length, .int x_text_word, .int x_text_kind, .int x_text_number, .int x_text_row, .int x_text_reached, .int x_text_broken])), (h_x_text_signs, .inl (cI, 60, .inl x_text_signs)), (h_x_trial, .inr (3, [.ref h_x_trial_state, .int x_trial_orders, .int x_trial_position, .int x_trial_reason, .int x_trial_cause])), (h_x_trial_state, .inr (1, [.int x_trial_state_row, .int x_trial_state_table, .int x_trial_state_kept, .ref h_x_trial_state_book])), (h_x_trial_state_book, .inl (cI, 8, .inl x_trial_state_book)), (h_x_ways, .inr (4, [.ref h_x_ways_stock, .ref h_x_ways_weight, .ref h_x_ways_known, .ref h_x_ways_found, nv x_ways_measure h_x_measured, .int x_ways_values, .int x_ways_row, .int x_ways_rowCodes, .int x_ways_table, .int x_ways_length, .int x_ways_full, .int x_ways_pairs, .int x_ways_codes])), (h_x_ways_stock, .inl (cI, 16, .inl x_ways_stock)), (h_x_ways_weight, .inl (cI, 16, .inl x_ways_weight)), (h_x_ways_known, .inl (cI, 577, .inl x_ways_known)), (h_x_ways_found, .inl (cI, 6347, .inl x_ways_found)), (h_x_measured, .inr (0, [.int x_measured_which, .int x_measured_x, .int x_measured_y, .int x_measured_row, .int x_measured_table])), (h_x_pairCounts, .inl (cI, 16, .inl x_pairCounts))]) hc m_X5_221 (c_X5_keepsCodes l D cI cS X F a1 hu20) [] (rmok_of (Nat.le_of_ble_eq_true rfl)) ⟨Nat.zero_le _, Nat.zero_le _⟩ rfl rfl rfl rfl rfl ⟨rfl, rfl, rfl⟩ dX5_isShuffle_66 ?_
          obtain ⟨t21, hr23, h⟩ := ob h
          have hj22 : G p l e (rmk 4) s m [.ref h_x, .int a1, .int a2].toArray below meth c D A 3 0 0 (QI below [.ref h_x, .int a1, .int a2].toArray s D A (PoI res [(h_x, .inr (5, [.ref h_x_now, .ref h_past, .int x_pastStates, .ref h_x_text, .ref h_x_trial, .ref h_x_ways, .ref h_x_measured, .ref h_x_pairCounts])), (h_x_now, .inr (1, [.int x_now_row, .int x_now_table, .int x_now_kept, .ref h_x_now_book])), (h_x_now_book, .inl (cI, 8, .inl x_now_book)), (h_x_text, .inr (2, [.ref h_x_text_signs, .int x_text_length, .int x_text_word, .int x_text_kind, .int x_text_number, .int x_text_row, .int x_text_reached, .int x_text_broken])), (h_x_text_signs, .inl (cI, 60, .inl x_text_signs)), (h_x_trial, .inr (3, [.ref h_x_trial_state, .int x_trial_orders, .int x_trial_position, .int x_trial_reason, .int x_trial_cause])), (h_x_trial_state, .inr (1, [.int x_trial_state_row, .int x_trial_state_table, .int x_trial_state_kept, .ref h_x_trial_state_book])), (h_x_trial_state_book, .inl (cI, 8, .inl x_trial_state_book)), (h_x_ways, .inr (4, [.ref h_x_ways_stock, .ref h_x_ways_weight, .ref h_x_ways_known, .ref h_x_ways_found, nv x_ways_measure h_x_measured, .int x_ways_values, .int x_ways_row, .int x_ways_rowCodes, .int x_ways_table, .int x_ways_length, .int x_ways_full, .int x_ways_pairs, .int x_ways_codes])), (h_x_ways_stock, .inl (cI, 16, .inl x_ways_stock)), (h_x_ways_weight, .inl (cI, 16, .inl x_ways_weight)), (h_x_ways_known, .inl (cI, 577, .inl x_ways_known)), (h_x_ways_found, .inl (cI, 6347, .inl x_ways_found)), (h_x_measured, .inr (0, [.int x_measured_which, .int x_measured_x, .int x_measured_y, .int x_measured_row, .int x_measured_table])), (h_x_pairCounts, .inl (cI, 16, .inl x_pairCounts))])) [(h_x, .inr (5, [.ref h_x_now, .ref h_past, .int x_pastStates, .ref h_x_text, .ref h_x_trial, .ref h_x_ways, .ref h_x_measured, .ref h_x_pairCounts])), (h_x_now, .inr (1, [.int x_now_row, .int x_now_table, .int x_now_kept, .ref h_x_now_book])), (h_x_now_book, .inl (cI, 8, .inl x_now_book)), (h_x_text, .inr (2, [.ref h_x_text_signs, .int x_text_length, .int x_text_word, .int x_text_kind, .int x_text_number, .int x_text_row, .int x_text_reached, .int x_text_broken])), (h_x_text_signs, .inl (cI, 60, .inl x_text_signs)), (h_x_trial, .inr (3, [.ref h_x_trial_state, .int x_trial_orders, .int x_trial_position, .int x_trial_reason, .int x_trial_cause])), (h_x_trial_state, .inr (1, [.int x_trial_state_row, .int x_trial_state_table, .int x_trial_state_kept, .ref h_x_trial_state_book])), (h_x_trial_state_book, .inl (cI, 8, .inl x_trial_state_book)), (h_x_ways, .inr (4, [.ref h_x_ways_stock, .ref h_x_ways_weight, .ref h_x_ways_known, .ref h_x_ways_found, nv x_ways_measure h_x_measured, .int x_ways_values, .int x_ways_row, .int x_ways_rowCodes, .int x_ways_table, .int x_ways_length, .int x_ways_full, .int x_ways_pairs, .int x_ways_codes])), (h_x_ways_stock, .inl (cI, 16, .inl x_ways_stock)), (h_x_ways_weight, .inl (cI, 16, .inl x_ways_weight)), (h_x_ways_known, .inl (cI, 577, .inl x_ways_known)), (h_x_ways_found, .inl (cI, 6347, .inl x_ways_found)), (h_x_measured, .inr (0, [.int x_measured_which, .int x_measured_x, .int x_measured_y, .int x_measured_row, .int x_measured_table])), (h_x_pairCounts, .inl (cI, 16, .inl x_pairCounts))] [] 98 [.int t21] := by
            obtain ⟨hz28, h⟩ := zb h
            have h := Option.some.inj h
            subst h
            exact G_zreturn hc hz28 ⟨rfl, rfl⟩ dX5_isShuffle_98
          clear h
          have h := hr23
          clear hr23
          refine G_if_eq (tgt := 93) hc dX5_isShuffle_69 (by decide) (fun c27 => ?_) (fun c27 => ?_)
          · have h := ip h c27
            refine G_iconst (v := 1) hc dX5_isShuffle_93 (by decide) ?_
            refine G_goto (tgt := 98) hc dX5_isShuffle_94 (by decide) ?_
            have h := Option.some.inj h
            subst h
            refine G_lv (lv' := []) lsame_nil ?_
            exact hj22
          · have h := inn h c27
            refine G_aload_n hc dX5_isShuffle_72 rfl ?_
            refine G_get hc f_X5_10 0 rfl rfl dX5_isShuffle_73 ?_
            refine G_get hc f_X5_73 1 rfl rfl dX5_isShuffle_76 ?_
            refine G_aload_n hc dX5_isShuffle_79 rfl ?_
            refine G_get hc f_X5_10 0 rfl rfl dX5_isShuffle_80 ?_
            refine G_get hc f_X5_57 1 rfl rfl dX5_isShuffle_83 ?_
            refine G_iload_n hc dX5_isShuffle_86 rfl ?_
            obtain ⟨z24, hu25, h⟩ := ob h
            refine G_callSI (ws2 := [(h_x, .inr (5, [.ref h_x_now, .ref h_past, .int x_pastStates, .ref h_x_text, .ref h_x_trial, .ref h_x_ways, .ref h_x_measured, .ref h_x_pairCounts])), (h_x_now, .inr (1, [.int x_now_row, .int x_now_table, .int x_now_kept, .ref h_x_now_book])), (h_x_now_book, .inl (cI, 8, .inl x_now_book)), (h_x_text, .inr (2, [.ref h_x_text_signs, .int x_text_length, .int x_text_word, .int x_text_kind, .int x_text_number, .int x_text_row, .int x_text_reached, .int x_text_broken])), (h_x_text_signs, .inl (cI, 60, .inl x_text_signs)), (h_x_trial, .inr (3, [.ref h_x_trial_state, .int x_trial_orders, .int x_trial_position, .int x_trial_reason, .int x_trial_cause])), (h_x_trial_state, .inr (1, [.int x_trial_state_row, .int x_trial_state_table, .int x_trial_state_kept, .ref h_x_trial_state_book])), (h_x_trial_state_book, .inl (cI, 8, .inl x_trial_state_book)), (h_x_ways, .inr (4, [.ref h_x_ways_stock, .ref h_x_ways_weight, .ref h_x_ways_known, .ref h_x_ways_found, nv x_ways_measure h_x_measured, .int x_ways_values, .int x_ways_row, .int x_ways_rowCodes, .int x_ways_table, .int x_ways_length, .int x_ways_full, .int x_ways_pairs, .int x_ways_codes])), (h_x_ways_stock, .inl (cI, 16, .inl x_ways_stock)), (h_x_ways_weight, .inl (cI, 16, .inl x_ways_weight)), (h_x_ways_known, .inl (cI, 577, .inl x_ways_known)), (h_x_ways_found, .inl (cI, 6347, .inl x_ways_found)), (h_x_measured, .inr (0, [.int x_measured_which, .int x_measured_x, .int x_measured_y, .int x_measured_row, .int x_measured_table])), (h_x_pairCounts, .inl (cI, 16, .inl x_pairCounts))]) hc m_X5_224 (c_X5_sameCodes l D cI cS X F x_now_table x_now_row a2 hu25) [] (rmok_of (Nat.le_of_ble_eq_true rfl)) ⟨Nat.zero_le _, Nat.zero_le _⟩ rfl rfl rfl rfl rfl ⟨rfl, rfl, rfl⟩ dX5_isShuffle_87 ?_
            refine G_if_eq (tgt := 97) hc dX5_isShuffle_90 (by decide) (fun c26 => ?_) (fun c26 => ?_)
            · have h := ip h c26
              refine G_iconst (v := 0) hc dX5_isShuffle_97 (by decide) ?_
              have h := Option.some.inj h
              subst h
              refine G_lv (lv' := []) lsame_nil ?_
              exact hj22
            · have h := inn h c26
              refine G_iconst (v := 1) hc dX5_isShuffle_93 (by decide) ?_
              refine G_goto (tgt := 98) hc dX5_isShuffle_94 (by decide) ?_
              have h := Option.some.inj h
              subst h
              refine G_lv (lv' := []) lsame_nil ?_
              exact hj22
        · have h := inn h c29
          refine G_iconst (v := 0) hc dX5_isShuffle_63 (by decide) ?_
          have h := Option.some.inj h
          subst h
          exact G_zreturn hc (by decide) ⟨rfl, rfl⟩ dX5_isShuffle_64
    · have h := inn h c60
      refine G_aload_n hc dX5_isShuffle_23 rfl ?_
      refine G_get hc f_X5_10 0 rfl rfl dX5_isShuffle_24 ?_
      refine G_get hc f_X5_57 1 rfl rfl dX5_isShuffle_27 ?_
      refine G_iload_n hc dX5_isShuffle_30 rfl ?_
      obtain ⟨z31, hu32, h⟩ := ob h
      refine G_callSI (ws2 := [(h_x, .inr (5, [.ref h_x_now, .ref h_past, .int x_pastStates, .ref h_x_text, .ref h_x_trial, .ref h_x_ways, .ref h_x_measured, .ref h_x_pairCounts])), (h_x_now, .inr (1, [.int x_now_row, .int x_now_table, .int x_now_kept, .ref h_x_now_book])), (h_x_now_book, .inl (cI, 8, .inl x_now_book)), (h_x_text, .inr (2, [.ref h_x_text_signs, .int x_text_length, .int x_text_word, .int x_text_kind, .int x_text_number, .int x_text_row, .int x_text_reached, .int x_text_broken])), (h_x_text_signs, .inl (cI, 60, .inl x_text_signs)), (h_x_trial, .inr (3, [.ref h_x_trial_state, .int x_trial_orders, .int x_trial_position, .int x_trial_reason, .int x_trial_cause])), (h_x_trial_state, .inr (1, [.int x_trial_state_row, .int x_trial_state_table, .int x_trial_state_kept, .ref h_x_trial_state_book])), (h_x_trial_state_book, .inl (cI, 8, .inl x_trial_state_book)), (h_x_ways, .inr (4, [.ref h_x_ways_stock, .ref h_x_ways_weight, .ref h_x_ways_known, .ref h_x_ways_found, nv x_ways_measure h_x_measured, .int x_ways_values, .int x_ways_row, .int x_ways_rowCodes, .int x_ways_table, .int x_ways_length, .int x_ways_full, .int x_ways_pairs, .int x_ways_codes])), (h_x_ways_stock, .inl (cI, 16, .inl x_ways_stock)), (h_x_ways_weight, .inl (cI, 16, .inl x_ways_weight)), (h_x_ways_known, .inl (cI, 577, .inl x_ways_known)), (h_x_ways_found, .inl (cI, 6347, .inl x_ways_found)), (h_x_measured, .inr (0, [.int x_measured_which, .int x_measured_x, .int x_measured_y, .int x_measured_row, .int x_measured_table])), (h_x_pairCounts, .inl (cI, 16, .inl x_pairCounts))]) hc m_X5_218 (c_X5_samePairs l D cI cS X F x_now_row a2 hu32) [] (rmok_of (Nat.le_of_ble_eq_true rfl)) ⟨Nat.zero_le _, Nat.zero_le _⟩ rfl rfl rfl rfl rfl ⟨rfl, rfl, rfl⟩ dX5_isShuffle_31 ?_
      refine G_if_ne (tgt := 39) hc dX5_isShuffle_34 (by decide) (fun c59 => ?_) (fun c59 => ?_)
      · have h := inn h c59
        refine G_iload_n hc dX5_isShuffle_39 rfl ?_
        refine G_iconst (v := 2) hc dX5_isShuffle_40 (by decide) ?_
        refine G_icmp_ne (tgt := 65) hc dX5_isShuffle_41 (by decide) (fun c58 => ?_) (fun c58 => ?_)
        · have h := inn h c58
          refine G_iload_n hc dX5_isShuffle_65 rfl ?_
          obtain ⟨z33, hu34, h⟩ := ob h
          refine G_callSI (ws2 := [(h_x, .inr (5, [.ref h_x_now, .ref h_past, .int x_pastStates, .ref h_x_text, .ref h_x_trial, .ref h_x_ways, .ref h_x_measured, .ref h_x_pairCounts])), (h_x_now, .inr (1, [.int x_now_row, .int x_now_table, .int x_now_kept, .ref h_x_now_book])), (h_x_now_book, .inl (cI, 8, .inl x_now_book)), (h_x_text, .inr (2, [.ref h_x_text_signs, .int x_text_length, .int x_text_word, .int x_text_kind, .int x_text_number, .int x_text_row, .int x_text_reached, .int x_text_broken])), (h_x_text_signs, .inl (cI, 60, .inl x_text_signs)), (h_x_trial, .inr (3, [.ref h_x_trial_state, .int x_trial_orders, .int x_trial_position, .int x_trial_reason, .int x_trial_cause])), (h_x_trial_state, .inr (1, [.int x_trial_state_row, .int x_trial_state_table, .int x_trial_state_kept, .ref h_x_trial_state_book])), (h_x_trial_state_book, .inl (cI, 8, .inl x_trial_state_book)), (h_x_ways, .inr (4, [.ref h_x_ways_stock, .ref h_x_ways_weight, .ref h_x_ways_known, .ref h_x_ways_found, nv x_ways_measure h_x_measured, .int x_ways_values, .int x_ways_row, .int x_ways_rowCodes, .int x_ways_table, .int x_ways_length, .int x_ways_full, .int x_ways_pairs, .int x_ways_codes])), (h_x_ways_stock, .inl (cI, 16, .inl x_ways_stock)), (h_x_ways_weight, .inl (cI, 16, .inl x_ways_weight)), (h_x_ways_known, .inl (cI, 577, .inl x_ways_known)), (h_x_ways_found, .inl (cI, 6347, .inl x_ways_found)), (h_x_measured, .inr (0, [.int x_measured_which, .int x_measured_x, .int x_measured_y, .int x_measured_row, .int x_measured_table])), (h_x_pairCounts, .inl (cI, 16, .inl x_pairCounts))]) hc m_X5_221 (c_X5_keepsCodes l D cI cS X F a1 hu34) [] (rmok_of (Nat.le_of_ble_eq_true rfl)) ⟨Nat.zero_le _, Nat.zero_le _⟩ rfl rfl rfl rfl rfl ⟨rfl, rfl, rfl⟩ dX5_isShuffle_66 ?_
          obtain ⟨t35, hr37, h⟩ := ob h
          have hj36 : G p l e (rmk 4) s m [.ref h_x, .int a1, .int a2].toArray below meth c D A 3 0 0 (QI below [.ref h_x, .int a1, .int a2].toArray s D A (PoI res [(h_x, .inr (5, [.ref h_x_now, .ref h_past, .int x_pastStates, .ref h_x_text, .ref h_x_trial, .ref h_x_ways, .ref h_x_measured, .ref h_x_pairCounts])), (h_x_now, .inr (1, [.int x_now_row, .int x_now_table, .int x_now_kept, .ref h_x_now_book])), (h_x_now_book, .inl (cI, 8, .inl x_now_book)), (h_x_text, .inr (2, [.ref h_x_text_signs, .int x_text_length, .int x_text_word, .int x_text_kind, .int x_text_number, .int x_text_row, .int x_text_reached, .int x_text_broken])), (h_x_text_signs, .inl (cI, 60, .inl x_text_signs)), (h_x_trial, .inr (3, [.ref h_x_trial_state, .int x_trial_orders, .int x_trial_position, .int x_trial_reason, .int x_trial_cause])), (h_x_trial_state, .inr (1, [.int x_trial_state_row, .int x_trial_state_table, .int x_trial_state_kept, .ref h_x_trial_state_book])), (h_x_trial_state_book, .inl (cI, 8, .inl x_trial_state_book)), (h_x_ways, .inr (4, [.ref h_x_ways_stock, .ref h_x_ways_weight, .ref h_x_ways_known, .ref h_x_ways_found, nv x_ways_measure h_x_measured, .int x_ways_values, .int x_ways_row, .int x_ways_rowCodes, .int x_ways_table, .int x_ways_length, .int x_ways_full, .int x_ways_pairs, .int x_ways_codes])), (h_x_ways_stock, .inl (cI, 16, .inl x_ways_stock)), (h_x_ways_weight, .inl (cI, 16, .inl x_ways_weight)), (h_x_ways_known, .inl (cI, 577, .inl x_ways_known)), (h_x_ways_found, .inl (cI, 6347, .inl x_ways_found)), (h_x_measured, .inr (0, [.int x_measured_which, .int x_measured_x, .int x_measured_y, .int x_measured_row, .int x_measured_table])), (h_x_pairCounts, .inl (cI, 16, .inl x_pairCounts))])) [(h_x, .inr (5, [.ref h_x_now, .ref h_past, .int x_pastStates, .ref h_x_text, .ref h_x_trial, .ref h_x_ways, .ref h_x_measured, .ref h_x_pairCounts])), (h_x_now, .inr (1, [.int x_now_row, .int x_now_table, .int x_now_kept, .ref h_x_now_book])), (h_x_now_book, .inl (cI, 8, .inl x_now_book)), (h_x_text, .inr (2, [.ref h_x_text_signs, .int x_text_length, .int x_text_word, .int x_text_kind, .int x_text_number, .int x_text_row, .int x_text_reached, .int x_text_broken])), (h_x_text_signs, .inl (cI, 60, .inl x_text_signs)), (h_x_trial, .inr (3, [.ref h_x_trial_state, .int x_trial_orders, .int x_trial_position, .int x_trial_reason, .int x_trial_cause])), (h_x_trial_state, .inr (1, [.int x_trial_state_row, .int x_trial_state_table, .int x_trial_state_kept, .ref h_x_trial_state_book])), (h_x_trial_state_book, .inl (cI, 8, .inl x_trial_state_book)), (h_x_ways, .inr (4, [.ref h_x_ways_stock, .ref h_x_ways_weight, .ref h_x_ways_known, .ref h_x_ways_found, nv x_ways_measure h_x_measured, .int x_ways_values, .int x_ways_row, .int x_ways_rowCodes, .int x_ways_table, .int x_ways_length, .int x_ways_full, .int x_ways_pairs, .int x_ways_codes])), (h_x_ways_stock, .inl (cI, 16, .inl x_ways_stock)), (h_x_ways_weight, .inl (cI, 16, .inl x_ways_weight)), (h_x_ways_known, .inl (cI, 577, .inl x_ways_known)), (h_x_ways_found, .inl (cI, 6347, .inl x_ways_found)), (h_x_measured, .inr (0, [.int x_measured_which, .int x_measured_x, .int x_measured_y, .int x_measured_row, .int x_measured_table])), (h_x_pairCounts, .inl (cI, 16, .inl x_pairCounts))] [] 98 [.int t35] := by
            obtain ⟨hz42, h⟩ := zb h
            have h := Option.some.inj h
            subst h
            exact G_zreturn hc hz42 ⟨rfl, rfl⟩ dX5_isShuffle_98
          clear h
          have h := hr37
          clear hr37
          refine G_if_eq (tgt := 93) hc dX5_isShuffle_69 (by decide) (fun c41 => ?_) (fun c41 => ?_)
          · have h := ip h c41
            refine G_iconst (v := 1) hc dX5_isShuffle_93 (by decide) ?_
            refine G_goto (tgt := 98) hc dX5_isShuffle_94 (by decide) ?_
            have h := Option.some.inj h
            subst h
            refine G_lv (lv' := []) lsame_nil ?_
            exact hj36
          · have h := inn h c41
            refine G_aload_n hc dX5_isShuffle_72 rfl ?_
            refine G_get hc f_X5_10 0 rfl rfl dX5_isShuffle_73 ?_
            refine G_get hc f_X5_73 1 rfl rfl dX5_isShuffle_76 ?_
            refine G_aload_n hc dX5_isShuffle_79 rfl ?_
            refine G_get hc f_X5_10 0 rfl rfl dX5_isShuffle_80 ?_
            refine G_get hc f_X5_57 1 rfl rfl dX5_isShuffle_83 ?_
            refine G_iload_n hc dX5_isShuffle_86 rfl ?_
            obtain ⟨z38, hu39, h⟩ := ob h
            refine G_callSI (ws2 := [(h_x, .inr (5, [.ref h_x_now, .ref h_past, .int x_pastStates, .ref h_x_text, .ref h_x_trial, .ref h_x_ways, .ref h_x_measured, .ref h_x_pairCounts])), (h_x_now, .inr (1, [.int x_now_row, .int x_now_table, .int x_now_kept, .ref h_x_now_book])), (h_x_now_book, .inl (cI, 8, .inl x_now_book)), (h_x_text, .inr (2, [.ref h_x_text_signs, .int x_text_length, .int x_text_word, .int x_text_kind, .int x_text_number, .int x_text_row, .int x_text_reached, .int x_text_broken])), (h_x_text_signs, .inl (cI, 60, .inl x_text_signs)), (h_x_trial, .inr (3, [.ref h_x_trial_state, .int x_trial_orders, .int x_trial_position, .int x_trial_reason, .int x_trial_cause])), (h_x_trial_state, .inr (1, [.int x_trial_state_row, .int x_trial_state_table, .int x_trial_state_kept, .ref h_x_trial_state_book])), (h_x_trial_state_book, .inl (cI, 8, .inl x_trial_state_book)), (h_x_ways, .inr (4, [.ref h_x_ways_stock, .ref h_x_ways_weight, .ref h_x_ways_known, .ref h_x_ways_found, nv x_ways_measure h_x_measured, .int x_ways_values, .int x_ways_row, .int x_ways_rowCodes, .int x_ways_table, .int x_ways_length, .int x_ways_full, .int x_ways_pairs, .int x_ways_codes])), (h_x_ways_stock, .inl (cI, 16, .inl x_ways_stock)), (h_x_ways_weight, .inl (cI, 16, .inl x_ways_weight)), (h_x_ways_known, .inl (cI, 577, .inl x_ways_known)), (h_x_ways_found, .inl (cI, 6347, .inl x_ways_found)), (h_x_measured, .inr (0, [.int x_measured_which, .int x_measured_x, .int x_measured_y, .int x_measured_row, .int x_measured_table])), (h_x_pairCounts, .inl (cI, 16, .inl x_pairCounts))]) hc m_X5_224 (c_X5_sameCodes l D cI cS X F x_now_table x_now_row a2 hu39) [] (rmok_of (Nat.le_of_ble_eq_true rfl)) ⟨Nat.zero_le _, Nat.zero_le _⟩ rfl rfl rfl rfl rfl ⟨rfl, rfl, rfl⟩ dX5_isShuffle_87 ?_
            refine G_if_eq (tgt := 97) hc dX5_isShuffle_90 (by decide) (fun c40 => ?_) (fun c40 => ?_)
            · have h := ip h c40
              refine G_iconst (v := 0) hc dX5_isShuffle_97 (by decide) ?_
              have h := Option.some.inj h
              subst h
              refine G_lv (lv' := []) lsame_nil ?_
              exact hj36
            · have h := inn h c40
              refine G_iconst (v := 1) hc dX5_isShuffle_93 (by decide) ?_
              refine G_goto (tgt := 98) hc dX5_isShuffle_94 (by decide) ?_
              have h := Option.some.inj h
              subst h
              refine G_lv (lv' := []) lsame_nil ?_
              exact hj36
        · have h := ip h c58
          refine G_aload_n hc dX5_isShuffle_44 rfl ?_
          refine G_get hc f_X5_10 0 rfl rfl dX5_isShuffle_45 ?_
          refine G_get hc f_X5_57 1 rfl rfl dX5_isShuffle_48 ?_
          refine G_iconst (v := 0) hc dX5_isShuffle_51 (by decide) ?_
          obtain ⟨z43, hu44, h⟩ := ob h
          refine G_callSI (ws2 := [(h_x, .inr (5, [.ref h_x_now, .ref h_past, .int x_pastStates, .ref h_x_text, .ref h_x_trial, .ref h_x_ways, .ref h_x_measured, .ref h_x_pairCounts])), (h_x_now, .inr (1, [.int x_now_row, .int x_now_table, .int x_now_kept, .ref h_x_now_book])), (h_x_now_book, .inl (cI, 8, .inl x_now_book)), (h_x_text, .inr (2, [.ref h_x_text_signs, .int x_text_length, .int x_text_word, .int x_text_kind, .int x_text_number, .int x_text_row, .int x_text_reached, .int x_text_broken])), (h_x_text_signs, .inl (cI, 60, .inl x_text_signs)), (h_x_trial, .inr (3, [.ref h_x_trial_state, .int x_trial_orders, .int x_trial_position, .int x_trial_reason, .int x_trial_cause])), (h_x_trial_state, .inr (1, [.int x_trial_state_row, .int x_trial_state_table, .int x_trial_state_kept, .ref h_x_trial_state_book])), (h_x_trial_state_book, .inl (cI, 8, .inl x_trial_state_book)), (h_x_ways, .inr (4, [.ref h_x_ways_stock, .ref h_x_ways_weight, .ref h_x_ways_known, .ref h_x_ways_found, nv x_ways_measure h_x_measured, .int x_ways_values, .int x_ways_row, .int x_ways_rowCodes, .int x_ways_table, .int x_ways_length, .int x_ways_full, .int x_ways_pairs, .int x_ways_codes])), (h_x_ways_stock, .inl (cI, 16, .inl x_ways_stock)), (h_x_ways_weight, .inl (cI, 16, .inl x_ways_weight)), (h_x_ways_known, .inl (cI, 577, .inl x_ways_known)), (h_x_ways_found, .inl (cI, 6347, .inl x_ways_found)), (h_x_measured, .inr (0, [.int x_measured_which, .int x_measured_x, .int x_measured_y, .int x_measured_row, .int x_measured_table])), (h_x_pairCounts, .inl (cI, 16, .inl x_pairCounts))]) hc m_X5_88 (c_X5_letterOf l D cI cS X F x_now_row (0 : Int32) hu44) [] (rmok_of (Nat.le_of_ble_eq_true rfl)) ⟨Nat.zero_le _, Nat.zero_le _⟩ rfl rfl rfl rfl rfl ⟨rfl, rfl, rfl⟩ dX5_isShuffle_52 ?_
          refine G_iload_n hc dX5_isShuffle_55 rfl ?_
          refine G_iconst (v := 0) hc dX5_isShuffle_56 (by decide) ?_
          obtain ⟨z45, hu46, h⟩ := ob h
          refine G_callSI (ws2 := [(h_x, .inr (5, [.ref h_x_now, .ref h_past, .int x_pastStates, .ref h_x_text, .ref h_x_trial, .ref h_x_ways, .ref h_x_measured, .ref h_x_pairCounts])), (h_x_now, .inr (1, [.int x_now_row, .int x_now_table, .int x_now_kept, .ref h_x_now_book])), (h_x_now_book, .inl (cI, 8, .inl x_now_book)), (h_x_text, .inr (2, [.ref h_x_text_signs, .int x_text_length, .int x_text_word, .int x_text_kind, .int x_text_number, .int x_text_row, .int x_text_reached, .int x_text_broken])), (h_x_text_signs, .inl (cI, 60, .inl x_text_signs)), (h_x_trial, .inr (3, [.ref h_x_trial_state, .int x_trial_orders, .int x_trial_position, .int x_trial_reason, .int x_trial_cause])), (h_x_trial_state, .inr (1, [.int x_trial_state_row, .int x_trial_state_table, .int x_trial_state_kept, .ref h_x_trial_state_book])), (h_x_trial_state_book, .inl (cI, 8, .inl x_trial_state_book)), (h_x_ways, .inr (4, [.ref h_x_ways_stock, .ref h_x_ways_weight, .ref h_x_ways_known, .ref h_x_ways_found, nv x_ways_measure h_x_measured, .int x_ways_values, .int x_ways_row, .int x_ways_rowCodes, .int x_ways_table, .int x_ways_length, .int x_ways_full, .int x_ways_pairs, .int x_ways_codes])), (h_x_ways_stock, .inl (cI, 16, .inl x_ways_stock)), (h_x_ways_weight, .inl (cI, 16, .inl x_ways_weight)), (h_x_ways_known, .inl (cI, 577, .inl x_ways_known)), (h_x_ways_found, .inl (cI, 6347, .inl x_ways_found)), (h_x_measured, .inr (0, [.int x_measured_which, .int x_measured_x, .int x_measured_y, .int x_measured_row, .int x_measured_table])), (h_x_pairCounts, .inl (cI, 16, .inl x_pairCounts))]) hc m_X5_88 (c_X5_letterOf l D cI cS X F a2 (0 : Int32) hu46) [] (rmok_of (Nat.le_of_ble_eq_true rfl)) ⟨Nat.zero_le _, Nat.zero_le _⟩ rfl rfl rfl rfl rfl ⟨rfl, rfl, rfl⟩ dX5_isShuffle_57 ?_
          refine G_icmp_eq (tgt := 65) hc dX5_isShuffle_60 (by decide) (fun c57 => ?_) (fun c57 => ?_)
          · have h := ip h c57
            refine G_iload_n hc dX5_isShuffle_65 rfl ?_
            obtain ⟨z47, hu48, h⟩ := ob h
            refine G_callSI (ws2 := [(h_x, .inr (5, [.ref h_x_now, .ref h_past, .int x_pastStates, .ref h_x_text, .ref h_x_trial, .ref h_x_ways, .ref h_x_measured, .ref h_x_pairCounts])), (h_x_now, .inr (1, [.int x_now_row, .int x_now_table, .int x_now_kept, .ref h_x_now_book])), (h_x_now_book, .inl (cI, 8, .inl x_now_book)), (h_x_text, .inr (2, [.ref h_x_text_signs, .int x_text_length, .int x_text_word, .int x_text_kind, .int x_text_number, .int x_text_row, .int x_text_reached, .int x_text_broken])), (h_x_text_signs, .inl (cI, 60, .inl x_text_signs)), (h_x_trial, .inr (3, [.ref h_x_trial_state, .int x_trial_orders, .int x_trial_position, .int x_trial_reason, .int x_trial_cause])), (h_x_trial_state, .inr (1, [.int x_trial_state_row, .int x_trial_state_table, .int x_trial_state_kept, .ref h_x_trial_state_book])), (h_x_trial_state_book, .inl (cI, 8, .inl x_trial_state_book)), (h_x_ways, .inr (4, [.ref h_x_ways_stock, .ref h_x_ways_weight, .ref h_x_ways_known, .ref h_x_ways_found, nv x_ways_measure h_x_measured, .int x_ways_values, .int x_ways_row, .int x_ways_rowCodes, .int x_ways_table, .int x_ways_length, .int x_ways_full, .int x_ways_pairs, .int x_ways_codes])), (h_x_ways_stock, .inl (cI, 16, .inl x_ways_stock)), (h_x_ways_weight, .inl (cI, 16, .inl x_ways_weight)), (h_x_ways_known, .inl (cI, 577, .inl x_ways_known)), (h_x_ways_found, .inl (cI, 6347, .inl x_ways_found)), (h_x_measured, .inr (0, [.int x_measured_which, .int x_measured_x, .int x_measured_y, .int x_measured_row, .int x_measured_table])), (h_x_pairCounts, .inl (cI, 16, .inl x_pairCounts))]) hc m_X5_221 (c_X5_keepsCodes l D cI cS X F a1 hu48) [] (rmok_of (Nat.le_of_ble_eq_true rfl)) ⟨Nat.zero_le _, Nat.zero_le _⟩ rfl rfl rfl rfl rfl ⟨rfl, rfl, rfl⟩ dX5_isShuffle_66 ?_
            obtain ⟨t49, hr51, h⟩ := ob h
            have hj50 : G p l e (rmk 4) s m [.ref h_x, .int a1, .int a2].toArray below meth c D A 3 0 0 (QI below [.ref h_x, .int a1, .int a2].toArray s D A (PoI res [(h_x, .inr (5, [.ref h_x_now, .ref h_past, .int x_pastStates, .ref h_x_text, .ref h_x_trial, .ref h_x_ways, .ref h_x_measured, .ref h_x_pairCounts])), (h_x_now, .inr (1, [.int x_now_row, .int x_now_table, .int x_now_kept, .ref h_x_now_book])), (h_x_now_book, .inl (cI, 8, .inl x_now_book)), (h_x_text, .inr (2, [.ref h_x_text_signs, .int x_text_length, .int x_text_word, .int x_text_kind, .int x_text_number, .int x_text_row, .int x_text_reached, .int x_text_broken])), (h_x_text_signs, .inl (cI, 60, .inl x_text_signs)), (h_x_trial, .inr (3, [.ref h_x_trial_state, .int x_trial_orders, .int x_trial_position, .int x_trial_reason, .int x_trial_cause])), (h_x_trial_state, .inr (1, [.int x_trial_state_row, .int x_trial_state_table, .int x_trial_state_kept, .ref h_x_trial_state_book])), (h_x_trial_state_book, .inl (cI, 8, .inl x_trial_state_book)), (h_x_ways, .inr (4, [.ref h_x_ways_stock, .ref h_x_ways_weight, .ref h_x_ways_known, .ref h_x_ways_found, nv x_ways_measure h_x_measured, .int x_ways_values, .int x_ways_row, .int x_ways_rowCodes, .int x_ways_table, .int x_ways_length, .int x_ways_full, .int x_ways_pairs, .int x_ways_codes])), (h_x_ways_stock, .inl (cI, 16, .inl x_ways_stock)), (h_x_ways_weight, .inl (cI, 16, .inl x_ways_weight)), (h_x_ways_known, .inl (cI, 577, .inl x_ways_known)), (h_x_ways_found, .inl (cI, 6347, .inl x_ways_found)), (h_x_measured, .inr (0, [.int x_measured_which, .int x_measured_x, .int x_measured_y, .int x_measured_row, .int x_measured_table])), (h_x_pairCounts, .inl (cI, 16, .inl x_pairCounts))])) [(h_x, .inr (5, [.ref h_x_now, .ref h_past, .int x_pastStates, .ref h_x_text, .ref h_x_trial, .ref h_x_ways, .ref h_x_measured, .ref h_x_pairCounts])), (h_x_now, .inr (1, [.int x_now_row, .int x_now_table, .int x_now_kept, .ref h_x_now_book])), (h_x_now_book, .inl (cI, 8, .inl x_now_book)), (h_x_text, .inr (2, [.ref h_x_text_signs, .int x_text_length, .int x_text_word, .int x_text_kind, .int x_text_number, .int x_text_row, .int x_text_reached, .int x_text_broken])), (h_x_text_signs, .inl (cI, 60, .inl x_text_signs)), (h_x_trial, .inr (3, [.ref h_x_trial_state, .int x_trial_orders, .int x_trial_position, .int x_trial_reason, .int x_trial_cause])), (h_x_trial_state, .inr (1, [.int x_trial_state_row, .int x_trial_state_table, .int x_trial_state_kept, .ref h_x_trial_state_book])), (h_x_trial_state_book, .inl (cI, 8, .inl x_trial_state_book)), (h_x_ways, .inr (4, [.ref h_x_ways_stock, .ref h_x_ways_weight, .ref h_x_ways_known, .ref h_x_ways_found, nv x_ways_measure h_x_measured, .int x_ways_values, .int x_ways_row, .int x_ways_rowCodes, .int x_ways_table, .int x_ways_length, .int x_ways_full, .int x_ways_pairs, .int x_ways_codes])), (h_x_ways_stock, .inl (cI, 16, .inl x_ways_stock)), (h_x_ways_weight, .inl (cI, 16, .inl x_ways_weight)), (h_x_ways_known, .inl (cI, 577, .inl x_ways_known)), (h_x_ways_found, .inl (cI, 6347, .inl x_ways_found)), (h_x_measured, .inr (0, [.int x_measured_which, .int x_measured_x, .int x_measured_y, .int x_measured_row, .int x_measured_table])), (h_x_pairCounts, .inl (cI, 16, .inl x_pairCounts))] [] 98 [.int t49] := by
              obtain ⟨hz56, h⟩ := zb h
              have h := Option.some.inj h
              subst h
              exact G_zreturn hc hz56 ⟨rfl, rfl⟩ dX5_isShuffle_98
            clear h
            have h := hr51
            clear hr51
            refine G_if_eq (tgt := 93) hc dX5_isShuffle_69 (by decide) (fun c55 => ?_) (fun c55 => ?_)
            · have h := ip h c55
              refine G_iconst (v := 1) hc dX5_isShuffle_93 (by decide) ?_
              refine G_goto (tgt := 98) hc dX5_isShuffle_94 (by decide) ?_
              have h := Option.some.inj h
              subst h
              refine G_lv (lv' := []) lsame_nil ?_
              exact hj50
            · have h := inn h c55
              refine G_aload_n hc dX5_isShuffle_72 rfl ?_
              refine G_get hc f_X5_10 0 rfl rfl dX5_isShuffle_73 ?_
              refine G_get hc f_X5_73 1 rfl rfl dX5_isShuffle_76 ?_
              refine G_aload_n hc dX5_isShuffle_79 rfl ?_
              refine G_get hc f_X5_10 0 rfl rfl dX5_isShuffle_80 ?_
              refine G_get hc f_X5_57 1 rfl rfl dX5_isShuffle_83 ?_
              refine G_iload_n hc dX5_isShuffle_86 rfl ?_
              obtain ⟨z52, hu53, h⟩ := ob h
              refine G_callSI (ws2 := [(h_x, .inr (5, [.ref h_x_now, .ref h_past, .int x_pastStates, .ref h_x_text, .ref h_x_trial, .ref h_x_ways, .ref h_x_measured, .ref h_x_pairCounts])), (h_x_now, .inr (1, [.int x_now_row, .int x_now_table, .int x_now_kept, .ref h_x_now_book])), (h_x_now_book, .inl (cI, 8, .inl x_now_book)), (h_x_text, .inr (2, [.ref h_x_text_signs, .int x_text_length, .int x_text_word, .int x_text_kind, .int x_text_number, .int x_text_row, .int x_text_reached, .int x_text_broken])), (h_x_text_signs, .inl (cI, 60, .inl x_text_signs)), (h_x_trial, .inr (3, [.ref h_x_trial_state, .int x_trial_orders, .int x_trial_position, .int x_trial_reason, .int x_trial_cause])), (h_x_trial_state, .inr (1, [.int x_trial_state_row, .int x_trial_state_table, .int x_trial_state_kept, .ref h_x_trial_state_book])), (h_x_trial_state_book, .inl (cI, 8, .inl x_trial_state_book)), (h_x_ways, .inr (4, [.ref h_x_ways_stock, .ref h_x_ways_weight, .ref h_x_ways_known, .ref h_x_ways_found, nv x_ways_measure h_x_measured, .int x_ways_values, .int x_ways_row, .int x_ways_rowCodes, .int x_ways_table, .int x_ways_length, .int x_ways_full, .int x_ways_pairs, .int x_ways_codes])), (h_x_ways_stock, .inl (cI, 16, .inl x_ways_stock)), (h_x_ways_weight, .inl (cI, 16, .inl x_ways_weight)), (h_x_ways_known, .inl (cI, 577, .inl x_ways_known)), (h_x_ways_found, .inl (cI, 6347, .inl x_ways_found)), (h_x_measured, .inr (0, [.int x_measured_which, .int x_measured_x, .int x_measured_y, .int x_measured_row, .int x_measured_table])), (h_x_pairCounts, .inl (cI, 16, .inl x_pairCounts))]) hc m_X5_224 (c_X5_sameCodes l D cI cS X F x_now_table x_now_row a2 hu53) [] (rmok_of (Nat.le_of_ble_eq_true rfl)) ⟨Nat.zero_le _, Nat.zero_le _⟩ rfl rfl rfl rfl rfl ⟨rfl, rfl, rfl⟩ dX5_isShuffle_87 ?_
              refine G_if_eq (tgt := 97) hc dX5_isShuffle_90 (by decide) (fun c54 => ?_) (fun c54 => ?_)
              · have h := ip h c54
                refine G_iconst (v := 0) hc dX5_isShuffle_97 (by decide) ?_
                have h := Option.some.inj h
                subst h
                refine G_lv (lv' := []) lsame_nil ?_
                exact hj50
              · have h := inn h c54
                refine G_iconst (v := 1) hc dX5_isShuffle_93 (by decide) ?_
                refine G_goto (tgt := 98) hc dX5_isShuffle_94 (by decide) ?_
                have h := Option.some.inj h
                subst h
                refine G_lv (lv' := []) lsame_nil ?_
                exact hj50
          · have h := inn h c57
            refine G_iconst (v := 0) hc dX5_isShuffle_63 (by decide) ?_
            have h := Option.some.inj h
            subst h
            exact G_zreturn hc (by decide) ⟨rfl, rfl⟩ dX5_isShuffle_64
      · have h := ip h c59
        refine G_iconst (v := 0) hc dX5_isShuffle_37 (by decide) ?_
        have h := Option.some.inj h
        subst h
        exact G_zreturn hc (by decide) ⟨rfl, rfl⟩ dX5_isShuffle_38
  · have h := ip h c61
    refine G_iconst (v := 0) hc dX5_isShuffle_14 (by decide) ?_
    have h := Option.some.inj h
    subst h
    exact G_zreturn hc (by decide) ⟨rfl, rfl⟩ dX5_isShuffle_15
