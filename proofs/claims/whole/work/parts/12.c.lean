set_option maxHeartbeats 4000000 in
set_option maxRecDepth 100000 in
theorem c_X4_leftAfter (l : Launch) (D : va_G) (cI cS : ClassId) (X : XP) (F : Nat) (h_w h_w_stock h_w_weight h_w_known h_w_found h_wM : Nat) (w_measure : Bool) (w_values : Int32) (w_row : Int32) (w_rowCodes : Int32) (w_table : Int32) (w_length : Int32) (w_full : Int32) (w_pairs : Int32) (w_codes : Int32) (w_stock : Nat → Int32) (w_weight : Nat → Int32) (w_known : Nat → Int32) (w_found : Nat → Int32) (wM_which : Int32) (wM_x : Int32) (wM_y : Int32) (wM_row : Int32) (wM_table : Int32) (a1 : Int32) (a2 : Int32) (a3 : Int32) (a4 : Int32) {res : Int32} (h : f_X4_leftAfter F w_row w_rowCodes w_table w_pairs w_codes w_stock w_weight a1 a2 a3 a4 = some res) : CtI l D cI cS X yX4_leftAfter cX4_leftAfter 5 (some .int) 2 [.ref h_w, .int a1, .int a2, .int a3, .int a4] [(h_w, .inr (4, [.ref h_w_stock, .ref h_w_weight, .ref h_w_known, .ref h_w_found, nv w_measure h_wM, .int w_values, .int w_row, .int w_rowCodes, .int w_table, .int w_length, .int w_full, .int w_pairs, .int w_codes])), (h_w_stock, .inl (cI, 16, .inl w_stock)), (h_w_weight, .inl (cI, 16, .inl w_weight)), (h_w_known, .inl (cI, 577, .inl w_known)), (h_w_found, .inl (cI, 6347, .inl w_found)), (h_wM, .inr (0, [.int wM_which, .int wM_x, .int wM_y, .int wM_row, .int wM_table]))] (PoI res [(h_w, .inr (4, [.ref h_w_stock, .ref h_w_weight, .ref h_w_known, .ref h_w_found, nv w_measure h_wM, .int w_values, .int w_row, .int w_rowCodes, .int w_table, .int w_length, .int w_full, .int w_pairs, .int w_codes])), (h_w_stock, .inl (cI, 16, .inl w_stock)), (h_w_weight, .inl (cI, 16, .inl w_weight)), (h_w_known, .inl (cI, 577, .inl w_known)), (h_w_found, .inl (cI, 6347, .inl w_found)), (h_wM, .inr (0, [.int wM_which, .int wM_x, .int wM_y, .int wM_row, .int wM_table]))]) := by
  refine CtI.of (by decide +kernel) rfl ?_
  intro p e s m below meth c A hc
  refine G_lv (lv' := [(0, .ref h_w), (1, .int a1), (2, .int a2), (3, .int a3), (4, .int a4)]) (lsame_cons rfl (lsame_cons rfl (lsame_cons rfl (lsame_cons rfl (lsame_cons rfl lsame_nil))))) ?_
  unfold f_X4_leftAfter at h
  refine G_aload_n hc dX4_leftAfter_0 rfl ?_
  refine G_get hc f_X4_32 0 rfl rfl dX4_leftAfter_1 ?_
  refine G_if_eq (tgt := 30) hc dX4_leftAfter_4 (by decide) (fun c58 => ?_) (fun c58 => ?_)
  · have h := ip h c58
    refine G_aload_n hc dX4_leftAfter_30 rfl ?_
    refine G_get hc f_X4_39 0 rfl rfl dX4_leftAfter_31 ?_
    refine G_if_eq (tgt := 69) hc dX4_leftAfter_34 (by decide) (fun c25 => ?_) (fun c25 => ?_)
    · have h := ip h c25
      refine G_aload_n hc dX4_leftAfter_69 rfl ?_
      refine G_iload_n hc dX4_leftAfter_70 rfl ?_
      refine G_aload_n hc dX4_leftAfter_71 rfl ?_
      refine G_get hc f_X4_32 0 rfl rfl dX4_leftAfter_72 ?_
      obtain ⟨t1, hr3, h⟩ := ob h
      have hj2 : G p l e (rmk 2) s m [.ref h_w, .int a1, .int a2, .int a3, .int a4].toArray below meth c D A 5 0 0 (QI below [.ref h_w, .int a1, .int a2, .int a3, .int a4].toArray s D A (PoI res [(h_w, .inr (4, [.ref h_w_stock, .ref h_w_weight, .ref h_w_known, .ref h_w_found, nv w_measure h_wM, .int w_values, .int w_row, .int w_rowCodes, .int w_table, .int w_length, .int w_full, .int w_pairs, .int w_codes])), (h_w_stock, .inl (cI, 16, .inl w_stock)), (h_w_weight, .inl (cI, 16, .inl w_weight)), (h_w_known, .inl (cI, 577, .inl w_known)), (h_w_found, .inl (cI, 6347, .inl w_found)), (h_wM, .inr (0, [.int wM_which, .int wM_x, .int wM_y, .int wM_row, .int wM_table]))])) [(h_w, .inr (4, [.ref h_w_stock, .ref h_w_weight, .ref h_w_known, .ref h_w_found, nv w_measure h_wM, .int w_values, .int w_row, .int w_rowCodes, .int w_table, .int w_length, .int w_full, .int w_pairs, .int w_codes])), (h_w_stock, .inl (cI, 16, .inl w_stock)), (h_w_weight, .inl (cI, 16, .inl w_weight)), (h_w_known, .inl (cI, 577, .inl w_known)), (h_w_found, .inl (cI, 6347, .inl w_found)), (h_wM, .inr (0, [.int wM_which, .int wM_x, .int wM_y, .int wM_row, .int wM_table]))] [] 89 [.int t1, .int a1, .ref h_w] := by
        obtain ⟨z5, hu6, h⟩ := ob h
        refine G_callVI (ws2 := [(h_w, .inr (4, [.ref h_w_stock, .ref h_w_weight, .ref h_w_known, .ref h_w_found, nv w_measure h_wM, .int w_values, .int w_row, .int w_rowCodes, .int w_table, .int w_length, .int w_full, .int w_pairs, .int w_codes])), (h_w_stock, .inl (cI, 16, .inl w_stock)), (h_w_weight, .inl (cI, 16, .inl w_weight)), (h_w_known, .inl (cI, 577, .inl w_known)), (h_w_found, .inl (cI, 6347, .inl w_found)), (h_wM, .inr (0, [.int wM_which, .int wM_x, .int wM_y, .int wM_row, .int wM_table]))]) hc m_X4_132 (c_X4_leftWithout l D cI cS X F h_w h_w_stock h_w_weight h_w_known h_w_found h_wM w_measure w_values w_row w_rowCodes w_table w_length w_full w_pairs w_codes w_stock w_weight w_known w_found wM_which wM_x wM_y wM_row wM_table a1 t1 hu6) 0 [0, 1, 2, 3, 4, 5] rfl rfl (rmok_of (Nat.le_of_ble_eq_true rfl)) ⟨Nat.zero_le _, Nat.zero_le _⟩ rfl rfl rfl rfl rfl ⟨rfl, rfl, rfl⟩ dX4_leftAfter_89 ?_
        have h := Option.some.inj h
        subst h
        exact G_ireturn hc ⟨rfl, rfl⟩ dX4_leftAfter_92
      clear h
      have h := hr3
      clear hr3
      refine G_if_eq (tgt := 87) hc dX4_leftAfter_75 (by decide) (fun c4 => ?_) (fun c4 => ?_)
      · have h := ip h c4
        refine G_iload hc dX4_leftAfter_87 rfl ?_
        have h := Option.some.inj h
        subst h
        refine G_lv (lv' := []) lsame_nil ?_
        exact hj2
      · have h := inn h c4
        refine G_iload_n hc dX4_leftAfter_78 rfl ?_
        refine G_iconst (v := 4) hc dX4_leftAfter_79 (by decide) ?_
        refine G_imul hc dX4_leftAfter_80 ?_
        refine G_iload hc dX4_leftAfter_81 rfl ?_
        refine G_iadd hc dX4_leftAfter_83 ?_
        refine G_goto (tgt := 89) hc dX4_leftAfter_84 (by decide) ?_
        have h := Option.some.inj h
        subst h
        refine G_lv (lv' := []) lsame_nil ?_
        exact hj2
    · have h := inn h c25
      refine G_iload_n hc dX4_leftAfter_37 rfl ?_
      refine G_iconst (v := 2) hc dX4_leftAfter_38 (by decide) ?_
      refine G_irem hc dX4_leftAfter_39 (by decide) ?_
      refine G_iconst (v := 1) hc dX4_leftAfter_40 (by decide) ?_
      refine G_icmp_ne (tgt := 69) hc dX4_leftAfter_41 (by decide) (fun c24 => ?_) (fun c24 => ?_)
      · have h := inn h c24
        refine G_aload_n hc dX4_leftAfter_69 rfl ?_
        refine G_iload_n hc dX4_leftAfter_70 rfl ?_
        refine G_aload_n hc dX4_leftAfter_71 rfl ?_
        refine G_get hc f_X4_32 0 rfl rfl dX4_leftAfter_72 ?_
        obtain ⟨t7, hr9, h⟩ := ob h
        have hj8 : G p l e (rmk 2) s m [.ref h_w, .int a1, .int a2, .int a3, .int a4].toArray below meth c D A 5 0 0 (QI below [.ref h_w, .int a1, .int a2, .int a3, .int a4].toArray s D A (PoI res [(h_w, .inr (4, [.ref h_w_stock, .ref h_w_weight, .ref h_w_known, .ref h_w_found, nv w_measure h_wM, .int w_values, .int w_row, .int w_rowCodes, .int w_table, .int w_length, .int w_full, .int w_pairs, .int w_codes])), (h_w_stock, .inl (cI, 16, .inl w_stock)), (h_w_weight, .inl (cI, 16, .inl w_weight)), (h_w_known, .inl (cI, 577, .inl w_known)), (h_w_found, .inl (cI, 6347, .inl w_found)), (h_wM, .inr (0, [.int wM_which, .int wM_x, .int wM_y, .int wM_row, .int wM_table]))])) [(h_w, .inr (4, [.ref h_w_stock, .ref h_w_weight, .ref h_w_known, .ref h_w_found, nv w_measure h_wM, .int w_values, .int w_row, .int w_rowCodes, .int w_table, .int w_length, .int w_full, .int w_pairs, .int w_codes])), (h_w_stock, .inl (cI, 16, .inl w_stock)), (h_w_weight, .inl (cI, 16, .inl w_weight)), (h_w_known, .inl (cI, 577, .inl w_known)), (h_w_found, .inl (cI, 6347, .inl w_found)), (h_wM, .inr (0, [.int wM_which, .int wM_x, .int wM_y, .int wM_row, .int wM_table]))] [] 89 [.int t7, .int a1, .ref h_w] := by
          obtain ⟨z11, hu12, h⟩ := ob h
          refine G_callVI (ws2 := [(h_w, .inr (4, [.ref h_w_stock, .ref h_w_weight, .ref h_w_known, .ref h_w_found, nv w_measure h_wM, .int w_values, .int w_row, .int w_rowCodes, .int w_table, .int w_length, .int w_full, .int w_pairs, .int w_codes])), (h_w_stock, .inl (cI, 16, .inl w_stock)), (h_w_weight, .inl (cI, 16, .inl w_weight)), (h_w_known, .inl (cI, 577, .inl w_known)), (h_w_found, .inl (cI, 6347, .inl w_found)), (h_wM, .inr (0, [.int wM_which, .int wM_x, .int wM_y, .int wM_row, .int wM_table]))]) hc m_X4_132 (c_X4_leftWithout l D cI cS X F h_w h_w_stock h_w_weight h_w_known h_w_found h_wM w_measure w_values w_row w_rowCodes w_table w_length w_full w_pairs w_codes w_stock w_weight w_known w_found wM_which wM_x wM_y wM_row wM_table a1 t7 hu12) 0 [0, 1, 2, 3, 4, 5] rfl rfl (rmok_of (Nat.le_of_ble_eq_true rfl)) ⟨Nat.zero_le _, Nat.zero_le _⟩ rfl rfl rfl rfl rfl ⟨rfl, rfl, rfl⟩ dX4_leftAfter_89 ?_
          have h := Option.some.inj h
          subst h
          exact G_ireturn hc ⟨rfl, rfl⟩ dX4_leftAfter_92
        clear h
        have h := hr9
        clear hr9
        refine G_if_eq (tgt := 87) hc dX4_leftAfter_75 (by decide) (fun c10 => ?_) (fun c10 => ?_)
        · have h := ip h c10
          refine G_iload hc dX4_leftAfter_87 rfl ?_
          have h := Option.some.inj h
          subst h
          refine G_lv (lv' := []) lsame_nil ?_
          exact hj8
        · have h := inn h c10
          refine G_iload_n hc dX4_leftAfter_78 rfl ?_
          refine G_iconst (v := 4) hc dX4_leftAfter_79 (by decide) ?_
          refine G_imul hc dX4_leftAfter_80 ?_
          refine G_iload hc dX4_leftAfter_81 rfl ?_
          refine G_iadd hc dX4_leftAfter_83 ?_
          refine G_goto (tgt := 89) hc dX4_leftAfter_84 (by decide) ?_
          have h := Option.some.inj h
          subst h
          refine G_lv (lv' := []) lsame_nil ?_
          exact hj8
      · have h := ip h c24
        refine G_aload_n hc dX4_leftAfter_44 rfl ?_
        refine G_get hc f_X4_63 0 rfl rfl dX4_leftAfter_45 ?_
        refine G_iload_n hc dX4_leftAfter_48 rfl ?_
        refine G_iload hc dX4_leftAfter_49 rfl ?_
        obtain ⟨z13, hu14, h⟩ := ob h
        refine G_callNI (ws2 := [(h_w, .inr (4, [.ref h_w_stock, .ref h_w_weight, .ref h_w_known, .ref h_w_found, nv w_measure h_wM, .int w_values, .int w_row, .int w_rowCodes, .int w_table, .int w_length, .int w_full, .int w_pairs, .int w_codes])), (h_w_stock, .inl (cI, 16, .inl w_stock)), (h_w_weight, .inl (cI, 16, .inl w_weight)), (h_w_known, .inl (cI, 577, .inl w_known)), (h_w_found, .inl (cI, 6347, .inl w_found)), (h_wM, .inr (0, [.int wM_which, .int wM_x, .int wM_y, .int wM_row, .int wM_table]))]) hc m_X4_129 (c_X5_codeIn l D cI cS X F w_table a2 a4 hu14) [] (rmok_of (Nat.le_of_ble_eq_true rfl)) ⟨Nat.zero_le _, Nat.zero_le _⟩ rfl rfl rfl rfl rfl ⟨rfl, rfl, rfl⟩ dX4_leftAfter_51 ?_
        refine G_aload_n hc dX4_leftAfter_54 rfl ?_
        refine G_get hc f_X4_80 0 rfl rfl dX4_leftAfter_55 ?_
        refine G_iload_n hc dX4_leftAfter_58 rfl ?_
        refine G_iconst (v := 2) hc dX4_leftAfter_59 (by decide) ?_
        refine G_idiv hc dX4_leftAfter_60 (by decide) ?_
        obtain ⟨z15, hu16, h⟩ := ob h
        refine G_callNI (ws2 := [(h_w, .inr (4, [.ref h_w_stock, .ref h_w_weight, .ref h_w_known, .ref h_w_found, nv w_measure h_wM, .int w_values, .int w_row, .int w_rowCodes, .int w_table, .int w_length, .int w_full, .int w_pairs, .int w_codes])), (h_w_stock, .inl (cI, 16, .inl w_stock)), (h_w_weight, .inl (cI, 16, .inl w_weight)), (h_w_known, .inl (cI, 577, .inl w_known)), (h_w_found, .inl (cI, 6347, .inl w_found)), (h_wM, .inr (0, [.int wM_which, .int wM_x, .int wM_y, .int wM_row, .int wM_table]))]) hc m_X4_102 (c_X5_letterOf l D cI cS X F w_rowCodes (a3 / (2 : Int32)) hu16) [] (rmok_of (Nat.le_of_ble_eq_true rfl)) ⟨Nat.zero_le _, Nat.zero_le _⟩ rfl rfl rfl rfl rfl ⟨rfl, rfl, rfl⟩ dX4_leftAfter_61 ?_
        refine G_icmp_eq (tgt := 69) hc dX4_leftAfter_64 (by decide) (fun c23 => ?_) (fun c23 => ?_)
        · have h := ip h c23
          refine G_aload_n hc dX4_leftAfter_69 rfl ?_
          refine G_iload_n hc dX4_leftAfter_70 rfl ?_
          refine G_aload_n hc dX4_leftAfter_71 rfl ?_
          refine G_get hc f_X4_32 0 rfl rfl dX4_leftAfter_72 ?_
          obtain ⟨t17, hr19, h⟩ := ob h
          have hj18 : G p l e (rmk 2) s m [.ref h_w, .int a1, .int a2, .int a3, .int a4].toArray below meth c D A 5 0 0 (QI below [.ref h_w, .int a1, .int a2, .int a3, .int a4].toArray s D A (PoI res [(h_w, .inr (4, [.ref h_w_stock, .ref h_w_weight, .ref h_w_known, .ref h_w_found, nv w_measure h_wM, .int w_values, .int w_row, .int w_rowCodes, .int w_table, .int w_length, .int w_full, .int w_pairs, .int w_codes])), (h_w_stock, .inl (cI, 16, .inl w_stock)), (h_w_weight, .inl (cI, 16, .inl w_weight)), (h_w_known, .inl (cI, 577, .inl w_known)), (h_w_found, .inl (cI, 6347, .inl w_found)), (h_wM, .inr (0, [.int wM_which, .int wM_x, .int wM_y, .int wM_row, .int wM_table]))])) [(h_w, .inr (4, [.ref h_w_stock, .ref h_w_weight, .ref h_w_known, .ref h_w_found, nv w_measure h_wM, .int w_values, .int w_row, .int w_rowCodes, .int w_table, .int w_length, .int w_full, .int w_pairs, .int w_codes])), (h_w_stock, .inl (cI, 16, .inl w_stock)), (h_w_weight, .inl (cI, 16, .inl w_weight)), (h_w_known, .inl (cI, 577, .inl w_known)), (h_w_found, .inl (cI, 6347, .inl w_found)), (h_wM, .inr (0, [.int wM_which, .int wM_x, .int wM_y, .int wM_row, .int wM_table]))] [] 89 [.int t17, .int a1, .ref h_w] := by
            obtain ⟨z21, hu22, h⟩ := ob h
            refine G_callVI (ws2 := [(h_w, .inr (4, [.ref h_w_stock, .ref h_w_weight, .ref h_w_known, .ref h_w_found, nv w_measure h_wM, .int w_values, .int w_row, .int w_rowCodes, .int w_table, .int w_length, .int w_full, .int w_pairs, .int w_codes])), (h_w_stock, .inl (cI, 16, .inl w_stock)), (h_w_weight, .inl (cI, 16, .inl w_weight)), (h_w_known, .inl (cI, 577, .inl w_known)), (h_w_found, .inl (cI, 6347, .inl w_found)), (h_wM, .inr (0, [.int wM_which, .int wM_x, .int wM_y, .int wM_row, .int wM_table]))]) hc m_X4_132 (c_X4_leftWithout l D cI cS X F h_w h_w_stock h_w_weight h_w_known h_w_found h_wM w_measure w_values w_row w_rowCodes w_table w_length w_full w_pairs w_codes w_stock w_weight w_known w_found wM_which wM_x wM_y wM_row wM_table a1 t17 hu22) 0 [0, 1, 2, 3, 4, 5] rfl rfl (rmok_of (Nat.le_of_ble_eq_true rfl)) ⟨Nat.zero_le _, Nat.zero_le _⟩ rfl rfl rfl rfl rfl ⟨rfl, rfl, rfl⟩ dX4_leftAfter_89 ?_
            have h := Option.some.inj h
            subst h
            exact G_ireturn hc ⟨rfl, rfl⟩ dX4_leftAfter_92
          clear h
          have h := hr19
          clear hr19
          refine G_if_eq (tgt := 87) hc dX4_leftAfter_75 (by decide) (fun c20 => ?_) (fun c20 => ?_)
          · have h := ip h c20
            refine G_iload hc dX4_leftAfter_87 rfl ?_
            have h := Option.some.inj h
            subst h
            refine G_lv (lv' := []) lsame_nil ?_
            exact hj18
          · have h := inn h c20
            refine G_iload_n hc dX4_leftAfter_78 rfl ?_
            refine G_iconst (v := 4) hc dX4_leftAfter_79 (by decide) ?_
            refine G_imul hc dX4_leftAfter_80 ?_
            refine G_iload hc dX4_leftAfter_81 rfl ?_
            refine G_iadd hc dX4_leftAfter_83 ?_
            refine G_goto (tgt := 89) hc dX4_leftAfter_84 (by decide) ?_
            have h := Option.some.inj h
            subst h
            refine G_lv (lv' := []) lsame_nil ?_
            exact hj18
        · have h := inn h c23
          refine G_iconst (v := -1) hc dX4_leftAfter_67 (by decide) ?_
          have h := Option.some.inj h
          subst h
          exact G_ireturn hc ⟨rfl, rfl⟩ dX4_leftAfter_68
  · have h := inn h c58
    refine G_iload_n hc dX4_leftAfter_7 rfl ?_
    refine G_if_ne (tgt := 30) hc dX4_leftAfter_8 (by decide) (fun c57 => ?_) (fun c57 => ?_)
    · have h := inn h c57
      refine G_aload_n hc dX4_leftAfter_30 rfl ?_
      refine G_get hc f_X4_39 0 rfl rfl dX4_leftAfter_31 ?_
      refine G_if_eq (tgt := 69) hc dX4_leftAfter_34 (by decide) (fun c50 => ?_) (fun c50 => ?_)
      · have h := ip h c50
        refine G_aload_n hc dX4_leftAfter_69 rfl ?_
        refine G_iload_n hc dX4_leftAfter_70 rfl ?_
        refine G_aload_n hc dX4_leftAfter_71 rfl ?_
        refine G_get hc f_X4_32 0 rfl rfl dX4_leftAfter_72 ?_
        obtain ⟨t26, hr28, h⟩ := ob h
        have hj27 : G p l e (rmk 2) s m [.ref h_w, .int a1, .int a2, .int a3, .int a4].toArray below meth c D A 5 0 0 (QI below [.ref h_w, .int a1, .int a2, .int a3, .int a4].toArray s D A (PoI res [(h_w, .inr (4, [.ref h_w_stock, .ref h_w_weight, .ref h_w_known, .ref h_w_found, nv w_measure h_wM, .int w_values, .int w_row, .int w_rowCodes, .int w_table, .int w_length, .int w_full, .int w_pairs, .int w_codes])), (h_w_stock, .inl (cI, 16, .inl w_stock)), (h_w_weight, .inl (cI, 16, .inl w_weight)), (h_w_known, .inl (cI, 577, .inl w_known)), (h_w_found, .inl (cI, 6347, .inl w_found)), (h_wM, .inr (0, [.int wM_which, .int wM_x, .int wM_y, .int wM_row, .int wM_table]))])) [(h_w, .inr (4, [.ref h_w_stock, .ref h_w_weight, .ref h_w_known, .ref h_w_found, nv w_measure h_wM, .int w_values, .int w_row, .int w_rowCodes, .int w_table, .int w_length, .int w_full, .int w_pairs, .int w_codes])), (h_w_stock, .inl (cI, 16, .inl w_stock)), (h_w_weight, .inl (cI, 16, .inl w_weight)), (h_w_known, .inl (cI, 577, .inl w_known)), (h_w_found, .inl (cI, 6347, .inl w_found)), (h_wM, .inr (0, [.int wM_which, .int wM_x, .int wM_y, .int wM_row, .int wM_table]))] [] 89 [.int t26, .int a1, .ref h_w] := by
          obtain ⟨z30, hu31, h⟩ := ob h
          refine G_callVI (ws2 := [(h_w, .inr (4, [.ref h_w_stock, .ref h_w_weight, .ref h_w_known, .ref h_w_found, nv w_measure h_wM, .int w_values, .int w_row, .int w_rowCodes, .int w_table, .int w_length, .int w_full, .int w_pairs, .int w_codes])), (h_w_stock, .inl (cI, 16, .inl w_stock)), (h_w_weight, .inl (cI, 16, .inl w_weight)), (h_w_known, .inl (cI, 577, .inl w_known)), (h_w_found, .inl (cI, 6347, .inl w_found)), (h_wM, .inr (0, [.int wM_which, .int wM_x, .int wM_y, .int wM_row, .int wM_table]))]) hc m_X4_132 (c_X4_leftWithout l D cI cS X F h_w h_w_stock h_w_weight h_w_known h_w_found h_wM w_measure w_values w_row w_rowCodes w_table w_length w_full w_pairs w_codes w_stock w_weight w_known w_found wM_which wM_x wM_y wM_row wM_table a1 t26 hu31) 0 [0, 1, 2, 3, 4, 5] rfl rfl (rmok_of (Nat.le_of_ble_eq_true rfl)) ⟨Nat.zero_le _, Nat.zero_le _⟩ rfl rfl rfl rfl rfl ⟨rfl, rfl, rfl⟩ dX4_leftAfter_89 ?_
          have h := Option.some.inj h
          subst h
          exact G_ireturn hc ⟨rfl, rfl⟩ dX4_leftAfter_92
        clear h
        have h := hr28
        clear hr28
        refine G_if_eq (tgt := 87) hc dX4_leftAfter_75 (by decide) (fun c29 => ?_) (fun c29 => ?_)
        · have h := ip h c29
          refine G_iload hc dX4_leftAfter_87 rfl ?_
          have h := Option.some.inj h
          subst h
          refine G_lv (lv' := []) lsame_nil ?_
          exact hj27
        · have h := inn h c29
          refine G_iload_n hc dX4_leftAfter_78 rfl ?_
          refine G_iconst (v := 4) hc dX4_leftAfter_79 (by decide) ?_
          refine G_imul hc dX4_leftAfter_80 ?_
          refine G_iload hc dX4_leftAfter_81 rfl ?_
          refine G_iadd hc dX4_leftAfter_83 ?_
          refine G_goto (tgt := 89) hc dX4_leftAfter_84 (by decide) ?_
          have h := Option.some.inj h
          subst h
          refine G_lv (lv' := []) lsame_nil ?_
          exact hj27
      · have h := inn h c50
        refine G_iload_n hc dX4_leftAfter_37 rfl ?_
        refine G_iconst (v := 2) hc dX4_leftAfter_38 (by decide) ?_
        refine G_irem hc dX4_leftAfter_39 (by decide) ?_
        refine G_iconst (v := 1) hc dX4_leftAfter_40 (by decide) ?_
        refine G_icmp_ne (tgt := 69) hc dX4_leftAfter_41 (by decide) (fun c49 => ?_) (fun c49 => ?_)
        · have h := inn h c49
          refine G_aload_n hc dX4_leftAfter_69 rfl ?_
          refine G_iload_n hc dX4_leftAfter_70 rfl ?_
          refine G_aload_n hc dX4_leftAfter_71 rfl ?_
          refine G_get hc f_X4_32 0 rfl rfl dX4_leftAfter_72 ?_
          obtain ⟨t32, hr34, h⟩ := ob h
          have hj33 : G p l e (rmk 2) s m [.ref h_w, .int a1, .int a2, .int a3, .int a4].toArray below meth c D A 5 0 0 (QI below [.ref h_w, .int a1, .int a2, .int a3, .int a4].toArray s D A (PoI res [(h_w, .inr (4, [.ref h_w_stock, .ref h_w_weight, .ref h_w_known, .ref h_w_found, nv w_measure h_wM, .int w_values, .int w_row, .int w_rowCodes, .int w_table, .int w_length, .int w_full, .int w_pairs, .int w_codes])), (h_w_stock, .inl (cI, 16, .inl w_stock)), (h_w_weight, .inl (cI, 16, .inl w_weight)), (h_w_known, .inl (cI, 577, .inl w_known)), (h_w_found, .inl (cI, 6347, .inl w_found)), (h_wM, .inr (0, [.int wM_which, .int wM_x, .int wM_y, .int wM_row, .int wM_table]))])) [(h_w, .inr (4, [.ref h_w_stock, .ref h_w_weight, .ref h_w_known, .ref h_w_found, nv w_measure h_wM, .int w_values, .int w_row, .int w_rowCodes, .int w_table, .int w_length, .int w_full, .int w_pairs, .int w_codes])), (h_w_stock, .inl (cI, 16, .inl w_stock)), (h_w_weight, .inl (cI, 16, .inl w_weight)), (h_w_known, .inl (cI, 577, .inl w_known)), (h_w_found, .inl (cI, 6347, .inl w_found)), (h_wM, .inr (0, [.int wM_which, .int wM_x, .int wM_y, .int wM_row, .int wM_table]))] [] 89 [.int t32, .int a1, .ref h_w] := by
            obtain ⟨z36, hu37, h⟩ := ob h
            refine G_callVI (ws2 := [(h_w, .inr (4, [.ref h_w_stock, .ref h_w_weight, .ref h_w_known, .ref h_w_found, nv w_measure h_wM, .int w_values, .int w_row, .int w_rowCodes, .int w_table, .int w_length, .int w_full, .int w_pairs, .int w_codes])), (h_w_stock, .inl (cI, 16, .inl w_stock)), (h_w_weight, .inl (cI, 16, .inl w_weight)), (h_w_known, .inl (cI, 577, .inl w_known)), (h_w_found, .inl (cI, 6347, .inl w_found)), (h_wM, .inr (0, [.int wM_which, .int wM_x, .int wM_y, .int wM_row, .int wM_table]))]) hc m_X4_132 (c_X4_leftWithout l D cI cS X F h_w h_w_stock h_w_weight h_w_known h_w_found h_wM w_measure w_values w_row w_rowCodes w_table w_length w_full w_pairs w_codes w_stock w_weight w_known w_found wM_which wM_x wM_y wM_row wM_table a1 t32 hu37) 0 [0, 1, 2, 3, 4, 5] rfl rfl (rmok_of (Nat.le_of_ble_eq_true rfl)) ⟨Nat.zero_le _, Nat.zero_le _⟩ rfl rfl rfl rfl rfl ⟨rfl, rfl, rfl⟩ dX4_leftAfter_89 ?_
            have h := Option.some.inj h
            subst h
            exact G_ireturn hc ⟨rfl, rfl⟩ dX4_leftAfter_92
          clear h
          have h := hr34
          clear hr34
          refine G_if_eq (tgt := 87) hc dX4_leftAfter_75 (by decide) (fun c35 => ?_) (fun c35 => ?_)
          · have h := ip h c35
            refine G_iload hc dX4_leftAfter_87 rfl ?_
            have h := Option.some.inj h
            subst h
            refine G_lv (lv' := []) lsame_nil ?_
            exact hj33
          · have h := inn h c35
            refine G_iload_n hc dX4_leftAfter_78 rfl ?_
            refine G_iconst (v := 4) hc dX4_leftAfter_79 (by decide) ?_
            refine G_imul hc dX4_leftAfter_80 ?_
            refine G_iload hc dX4_leftAfter_81 rfl ?_
            refine G_iadd hc dX4_leftAfter_83 ?_
            refine G_goto (tgt := 89) hc dX4_leftAfter_84 (by decide) ?_
            have h := Option.some.inj h
            subst h
            refine G_lv (lv' := []) lsame_nil ?_
            exact hj33
        · have h := ip h c49
          refine G_aload_n hc dX4_leftAfter_44 rfl ?_
          refine G_get hc f_X4_63 0 rfl rfl dX4_leftAfter_45 ?_
          refine G_iload_n hc dX4_leftAfter_48 rfl ?_
          refine G_iload hc dX4_leftAfter_49 rfl ?_
          obtain ⟨z38, hu39, h⟩ := ob h
          refine G_callNI (ws2 := [(h_w, .inr (4, [.ref h_w_stock, .ref h_w_weight, .ref h_w_known, .ref h_w_found, nv w_measure h_wM, .int w_values, .int w_row, .int w_rowCodes, .int w_table, .int w_length, .int w_full, .int w_pairs, .int w_codes])), (h_w_stock, .inl (cI, 16, .inl w_stock)), (h_w_weight, .inl (cI, 16, .inl w_weight)), (h_w_known, .inl (cI, 577, .inl w_known)), (h_w_found, .inl (cI, 6347, .inl w_found)), (h_wM, .inr (0, [.int wM_which, .int wM_x, .int wM_y, .int wM_row, .int wM_table]))]) hc m_X4_129 (c_X5_codeIn l D cI cS X F w_table a2 a4 hu39) [] (rmok_of (Nat.le_of_ble_eq_true rfl)) ⟨Nat.zero_le _, Nat.zero_le _⟩ rfl rfl rfl rfl rfl ⟨rfl, rfl, rfl⟩ dX4_leftAfter_51 ?_
          refine G_aload_n hc dX4_leftAfter_54 rfl ?_
          refine G_get hc f_X4_80 0 rfl rfl dX4_leftAfter_55 ?_
          refine G_iload_n hc dX4_leftAfter_58 rfl ?_
          refine G_iconst (v := 2) hc dX4_leftAfter_59 (by decide) ?_
          refine G_idiv hc dX4_leftAfter_60 (by decide) ?_
          obtain ⟨z40, hu41, h⟩ := ob h
          refine G_callNI (ws2 := [(h_w, .inr (4, [.ref h_w_stock, .ref h_w_weight, .ref h_w_known, .ref h_w_found, nv w_measure h_wM, .int w_values, .int w_row, .int w_rowCodes, .int w_table, .int w_length, .int w_full, .int w_pairs, .int w_codes])), (h_w_stock, .inl (cI, 16, .inl w_stock)), (h_w_weight, .inl (cI, 16, .inl w_weight)), (h_w_known, .inl (cI, 577, .inl w_known)), (h_w_found, .inl (cI, 6347, .inl w_found)), (h_wM, .inr (0, [.int wM_which, .int wM_x, .int wM_y, .int wM_row, .int wM_table]))]) hc m_X4_102 (c_X5_letterOf l D cI cS X F w_rowCodes (a3 / (2 : Int32)) hu41) [] (rmok_of (Nat.le_of_ble_eq_true rfl)) ⟨Nat.zero_le _, Nat.zero_le _⟩ rfl rfl rfl rfl rfl ⟨rfl, rfl, rfl⟩ dX4_leftAfter_61 ?_
          refine G_icmp_eq (tgt := 69) hc dX4_leftAfter_64 (by decide) (fun c48 => ?_) (fun c48 => ?_)
          · have h := ip h c48
            refine G_aload_n hc dX4_leftAfter_69 rfl ?_
            refine G_iload_n hc dX4_leftAfter_70 rfl ?_
            refine G_aload_n hc dX4_leftAfter_71 rfl ?_
            refine G_get hc f_X4_32 0 rfl rfl dX4_leftAfter_72 ?_
            obtain ⟨t42, hr44, h⟩ := ob h
            have hj43 : G p l e (rmk 2) s m [.ref h_w, .int a1, .int a2, .int a3, .int a4].toArray below meth c D A 5 0 0 (QI below [.ref h_w, .int a1, .int a2, .int a3, .int a4].toArray s D A (PoI res [(h_w, .inr (4, [.ref h_w_stock, .ref h_w_weight, .ref h_w_known, .ref h_w_found, nv w_measure h_wM, .int w_values, .int w_row, .int w_rowCodes, .int w_table, .int w_length, .int w_full, .int w_pairs, .int w_codes])), (h_w_stock, .inl (cI, 16, .inl w_stock)), (h_w_weight, .inl (cI, 16, .inl w_weight)), (h_w_known, .inl (cI, 577, .inl w_known)), (h_w_found, .inl (cI, 6347, .inl w_found)), (h_wM, .inr (0, [.int wM_which, .int wM_x, .int wM_y, .int wM_row, .int wM_table]))])) [(h_w, .inr (4, [.ref h_w_stock, .ref h_w_weight, .ref h_w_known, .ref h_w_found, nv w_measure h_wM, .int w_values, .int w_row, .int w_rowCodes, .int w_table, .int w_length, .int w_full, .int w_pairs, .int w_codes])), (h_w_stock, .inl (cI, 16, .inl w_stock)), (h_w_weight, .inl (cI, 16, .inl w_weight)), (h_w_known, .inl (cI, 577, .inl w_known)), (h_w_found, .inl (cI, 6347, .inl w_found)), (h_wM, .inr (0, [.int wM_which, .int wM_x, .int wM_y, .int wM_row, .int wM_table]))] [] 89 [.int t42, .int a1, .ref h_w] := by
              obtain ⟨z46, hu47, h⟩ := ob h
              refine G_callVI (ws2 := [(h_w, .inr (4, [.ref h_w_stock, .ref h_w_weight, .ref h_w_known, .ref h_w_found, nv w_measure h_wM, .int w_values, .int w_row, .int w_rowCodes, .int w_table, .int w_length, .int w_full, .int w_pairs, .int w_codes])), (h_w_stock, .inl (cI, 16, .inl w_stock)), (h_w_weight, .inl (cI, 16, .inl w_weight)), (h_w_known, .inl (cI, 577, .inl w_known)), (h_w_found, .inl (cI, 6347, .inl w_found)), (h_wM, .inr (0, [.int wM_which, .int wM_x, .int wM_y, .int wM_row, .int wM_table]))]) hc m_X4_132 (c_X4_leftWithout l D cI cS X F h_w h_w_stock h_w_weight h_w_known h_w_found h_wM w_measure w_values w_row w_rowCodes w_table w_length w_full w_pairs w_codes w_stock w_weight w_known w_found wM_which wM_x wM_y wM_row wM_table a1 t42 hu47) 0 [0, 1, 2, 3, 4, 5] rfl rfl (rmok_of (Nat.le_of_ble_eq_true rfl)) ⟨Nat.zero_le _, Nat.zero_le _⟩ rfl rfl rfl rfl rfl ⟨rfl, rfl, rfl⟩ dX4_leftAfter_89 ?_
              have h := Option.some.inj h
              subst h
              exact G_ireturn hc ⟨rfl, rfl⟩ dX4_leftAfter_92
            clear h
            have h := hr44
            clear hr44
            refine G_if_eq (tgt := 87) hc dX4_leftAfter_75 (by decide) (fun c45 => ?_) (fun c45 => ?_)
            · have h := ip h c45
              refine G_iload hc dX4_leftAfter_87 rfl ?_
              have h := Option.some.inj h
              subst h
              refine G_lv (lv' := []) lsame_nil ?_
              exact hj43
            · have h := inn h c45
              refine G_iload_n hc dX4_leftAfter_78 rfl ?_
              refine G_iconst (v := 4) hc dX4_leftAfter_79 (by decide) ?_
              refine G_imul hc dX4_leftAfter_80 ?_
              refine G_iload hc dX4_leftAfter_81 rfl ?_
              refine G_iadd hc dX4_leftAfter_83 ?_
              refine G_goto (tgt := 89) hc dX4_leftAfter_84 (by decide) ?_
              have h := Option.some.inj h
              subst h
              refine G_lv (lv' := []) lsame_nil ?_
              exact hj43
          · have h := inn h c48
            refine G_iconst (v := -1) hc dX4_leftAfter_67 (by decide) ?_
            have h := Option.some.inj h
            subst h
            exact G_ireturn hc ⟨rfl, rfl⟩ dX4_leftAfter_68
    · have h := ip h c57
      refine G_iload hc dX4_leftAfter_11 rfl ?_
      refine G_aload_n hc dX4_leftAfter_13 rfl ?_
      refine G_get hc f_X4_59 0 rfl rfl dX4_leftAfter_14 ?_
      refine G_iconst (v := 0) hc dX4_leftAfter_17 (by decide) ?_
      obtain ⟨z51, hu52, h⟩ := ob h
      refine G_callNI (ws2 := [(h_w, .inr (4, [.ref h_w_stock, .ref h_w_weight, .ref h_w_known, .ref h_w_found, nv w_measure h_wM, .int w_values, .int w_row, .int w_rowCodes, .int w_table, .int w_length, .int w_full, .int w_pairs, .int w_codes])), (h_w_stock, .inl (cI, 16, .inl w_stock)), (h_w_weight, .inl (cI, 16, .inl w_weight)), (h_w_known, .inl (cI, 577, .inl w_known)), (h_w_found, .inl (cI, 6347, .inl w_found)), (h_wM, .inr (0, [.int wM_which, .int wM_x, .int wM_y, .int wM_row, .int wM_table]))]) hc m_X4_102 (c_X5_letterOf l D cI cS X F w_row (0 : Int32) hu52) [] (rmok_of (Nat.le_of_ble_eq_true rfl)) ⟨Nat.zero_le _, Nat.zero_le _⟩ rfl rfl rfl rfl rfl ⟨rfl, rfl, rfl⟩ dX4_leftAfter_18 ?_
      obtain ⟨t53, hr55, h⟩ := ob h
      have hj54 : G p l e (rmk 2) s m [.ref h_w, .int a1, .int a2, .int a3, .int a4].toArray below meth c D A 5 0 0 (QI below [.ref h_w, .int a1, .int a2, .int a3, .int a4].toArray s D A (PoI res [(h_w, .inr (4, [.ref h_w_stock, .ref h_w_weight, .ref h_w_known, .ref h_w_found, nv w_measure h_wM, .int w_values, .int w_row, .int w_rowCodes, .int w_table, .int w_length, .int w_full, .int w_pairs, .int w_codes])), (h_w_stock, .inl (cI, 16, .inl w_stock)), (h_w_weight, .inl (cI, 16, .inl w_weight)), (h_w_known, .inl (cI, 577, .inl w_known)), (h_w_found, .inl (cI, 6347, .inl w_found)), (h_wM, .inr (0, [.int wM_which, .int wM_x, .int wM_y, .int wM_row, .int wM_table]))])) [(h_w, .inr (4, [.ref h_w_stock, .ref h_w_weight, .ref h_w_known, .ref h_w_found, nv w_measure h_wM, .int w_values, .int w_row, .int w_rowCodes, .int w_table, .int w_length, .int w_full, .int w_pairs, .int w_codes])), (h_w_stock, .inl (cI, 16, .inl w_stock)), (h_w_weight, .inl (cI, 16, .inl w_weight)), (h_w_known, .inl (cI, 577, .inl w_known)), (h_w_found, .inl (cI, 6347, .inl w_found)), (h_wM, .inr (0, [.int wM_which, .int wM_x, .int wM_y, .int wM_row, .int wM_table]))] [] 29 [.int t53] := by
        have h := Option.some.inj h
        subst h
        exact G_ireturn hc ⟨rfl, rfl⟩ dX4_leftAfter_29
      clear h
      have h := hr55
      clear hr55
      refine G_icmp_ne (tgt := 28) hc dX4_leftAfter_21 (by decide) (fun c56 => ?_) (fun c56 => ?_)
      · have h := inn h c56
        refine G_iconst (v := -1) hc dX4_leftAfter_28 (by decide) ?_
        have h := Option.some.inj h
        subst h
        refine G_lv (lv' := []) lsame_nil ?_
        exact hj54
      · have h := ip h c56
        refine G_iload_n hc dX4_leftAfter_24 rfl ?_
        refine G_goto (tgt := 29) hc dX4_leftAfter_25 (by decide) ?_
        have h := Option.some.inj h
        subst h
        refine G_lv (lv' := []) lsame_nil ?_
        exact hj54
set_option maxHeartbeats 4000000 in
set_option maxRecDepth 100000 in
theorem c_X0_gain (l : Launch) (D : va_G) (cI cS : ClassId) (X : XP) (F : Nat) (h_q : Nat) (q_which : Int32) (q_x : Int32) (q_y : Int32) (q_row : Int32) (q_table : Int32) (a1 : Int32) (a2 : Int32) (a3 : Int32) {res : Int32} (h : f_X0_gain F q_which q_x q_y q_row q_table a1 a2 a3 = some res) : CtI l D cI cS X yX0_gain cX0_gain 5 (some .int) 2 [.ref h_q, .int a1, .int a2, .int a3] [(h_q, .inr (0, [.int q_which, .int q_x, .int q_y, .int q_row, .int q_table]))] (PoI res [(h_q, .inr (0, [.int q_which, .int q_x, .int q_y, .int q_row, .int q_table]))]) := by
  refine CtI.of (by decide +kernel) rfl ?_
  intro p e s m below meth c A hc
  refine G_lv (lv' := [(0, .ref h_q), (1, .int a1), (2, .int a2), (3, .int a3)]) (lsame_cons rfl (lsame_cons rfl (lsame_cons rfl (lsame_cons rfl lsame_nil)))) ?_
  unfold f_X0_gain at h
  refine G_aload_n hc dX0_gain_0 rfl ?_
  refine G_get hc f_X0_9 0 rfl rfl dX0_gain_1 ?_
  obtain ⟨t1, hr3, h⟩ := ob h
  have hj2 : G p l e (rmk 2) s m [.ref h_q, .int a1, .int a2, .int a3].toArray below meth c D A 5 0 0 (QI below [.ref h_q, .int a1, .int a2, .int a3].toArray s D A (PoI res [(h_q, .inr (0, [.int q_which, .int q_x, .int q_y, .int q_row, .int q_table]))])) [(h_q, .inr (0, [.int q_which, .int q_x, .int q_y, .int q_row, .int q_table]))] [(4, .int t1)] 133 [] := by
    refine G_iload hc dX0_gain_133 rfl ?_
    obtain ⟨t31, hr33, h⟩ := ob h
    have hj32 : G p l e (rmk 2) s m [.ref h_q, .int a1, .int a2, .int a3].toArray below meth c D A 5 0 0 (QI below [.ref h_q, .int a1, .int a2, .int a3].toArray s D A (PoI res [(h_q, .inr (0, [.int q_which, .int q_x, .int q_y, .int q_row, .int q_table]))])) [(h_q, .inr (0, [.int q_which, .int q_x, .int q_y, .int q_row, .int q_table]))] [] 143 [.int t31] := by
      have h := Option.some.inj h
      subst h
      exact G_ireturn hc ⟨rfl, rfl⟩ dX0_gain_143
    clear h
    have h := hr33
    clear hr33
    refine G_if_eq (tgt := 142) hc dX0_gain_135 (by decide) (fun c34 => ?_) (fun c34 => ?_)
    · have h := ip h c34
      refine G_iconst (v := 0) hc dX0_gain_142 (by decide) ?_
      have h := Option.some.inj h
      subst h
      refine G_lv (lv' := []) lsame_nil ?_
      exact hj32
    · have h := inn h c34
      refine G_iconst (v := 1) hc dX0_gain_138 (by decide) ?_
      refine G_goto (tgt := 143) hc dX0_gain_139 (by decide) ?_
      have h := Option.some.inj h
      subst h
      refine G_lv (lv' := []) lsame_nil ?_
      exact hj32
  clear h
  have h := hr3
  clear hr3
  by_cases c4 : q_which = (0 : Int32)
  · have h := ip h c4
    refine G_tableIn (tgt := 32) hc dX0_gain_4 (0 : Int32) c4 (by decide) (by decide) rfl (by decide) ?_
    refine G_iload_n hc dX0_gain_32 rfl ?_
    obtain ⟨t5, hr7, h⟩ := ob h
    have hj6 : G p l e (rmk 2) s m [.ref h_q, .int a1, .int a2, .int a3].toArray below meth c D A 5 0 0 (QI below [.ref h_q, .int a1, .int a2, .int a3].toArray s D A (PoI res [(h_q, .inr (0, [.int q_which, .int q_x, .int q_y, .int q_row, .int q_table]))])) [(h_q, .inr (0, [.int q_which, .int q_x, .int q_y, .int q_row, .int q_table]))] [] 57 [.int t5] := by
      refine G_istore (lv' := [(4, .int t5)]) hc dX0_gain_57 rfl rfl ?_
      refine G_goto (tgt := 133) hc dX0_gain_59 (by decide) ?_
      have h := Option.some.inj h
      subst h
      refine G_lv (lv' := [(4, .int t5)]) (lsame_cons rfl lsame_nil) ?_
      exact hj2
    clear h
    have h := hr7
    clear hr7
    refine G_if_le (tgt := 56) hc dX0_gain_33 (by decide) (fun c10 => ?_) (fun c10 => ?_)
    · have h := ip h c10
      refine G_iconst (v := 0) hc dX0_gain_56 (by decide) ?_
      have h := Option.some.inj h
      subst h
      refine G_lv (lv' := []) lsame_nil ?_
      exact hj6
    · have h := inn h c10
      refine G_iload_n hc dX0_gain_36 rfl ?_
      refine G_aload_n hc dX0_gain_37 rfl ?_
      refine G_get hc f_X0_15 0 rfl rfl dX0_gain_38 ?_
      refine G_icmp_ne (tgt := 56) hc dX0_gain_41 (by decide) (fun c9 => ?_) (fun c9 => ?_)
      · have h := inn h c9
        refine G_iconst (v := 0) hc dX0_gain_56 (by decide) ?_
        have h := Option.some.inj h
        subst h
        refine G_lv (lv' := []) lsame_nil ?_
        exact hj6
      · have h := ip h c9
        refine G_iload_n hc dX0_gain_44 rfl ?_
        refine G_aload_n hc dX0_gain_45 rfl ?_
        refine G_get hc f_X0_18 0 rfl rfl dX0_gain_46 ?_
        refine G_icmp_ne (tgt := 56) hc dX0_gain_49 (by decide) (fun c8 => ?_) (fun c8 => ?_)
        · have h := inn h c8
          refine G_iconst (v := 0) hc dX0_gain_56 (by decide) ?_
          have h := Option.some.inj h
          subst h
          refine G_lv (lv' := []) lsame_nil ?_
          exact hj6
        · have h := ip h c8
          refine G_iconst (v := 1) hc dX0_gain_52 (by decide) ?_
          refine G_goto (tgt := 57) hc dX0_gain_53 (by decide) ?_
          have h := Option.some.inj h
          subst h
          refine G_lv (lv' := []) lsame_nil ?_
          exact hj6
  · have h := inn h c4
    by_cases c11 : q_which = (1 : Int32)
    · have h := ip h c11
      refine G_tableIn (tgt := 62) hc dX0_gain_4 (1 : Int32) c11 (by decide) (by decide) rfl (by decide) ?_
      refine G_iload_n hc dX0_gain_62 rfl ?_
      obtain ⟨t12, hr14, h⟩ := ob h
      have hj13 : G p l e (rmk 2) s m [.ref h_q, .int a1, .int a2, .int a3].toArray below meth c D A 5 0 0 (QI below [.ref h_q, .int a1, .int a2, .int a3].toArray s D A (PoI res [(h_q, .inr (0, [.int q_which, .int q_x, .int q_y, .int q_row, .int q_table]))])) [(h_q, .inr (0, [.int q_which, .int q_x, .int q_y, .int q_row, .int q_table]))] [] 76 [.int t12] := by
        refine G_istore (lv' := [(4, .int t12)]) hc dX0_gain_76 rfl rfl ?_
        refine G_goto (tgt := 133) hc dX0_gain_78 (by decide) ?_
        have h := Option.some.inj h
        subst h
        refine G_lv (lv' := [(4, .int t12)]) (lsame_cons rfl lsame_nil) ?_
        exact hj2
      clear h
      have h := hr14
      clear hr14
      refine G_if_eq (tgt := 71) hc dX0_gain_63 (by decide) (fun c16 => ?_) (fun c16 => ?_)
      · have h := ip h c16
        refine G_iconst (v := 1) hc dX0_gain_71 (by decide) ?_
        refine G_goto (tgt := 76) hc dX0_gain_72 (by decide) ?_
        have h := Option.some.inj h
        subst h
        refine G_lv (lv' := []) lsame_nil ?_
        exact hj13
      · have h := inn h c16
        refine G_iload_n hc dX0_gain_66 rfl ?_
        refine G_iload_n hc dX0_gain_67 rfl ?_
        refine G_icmp_eq (tgt := 75) hc dX0_gain_68 (by decide) (fun c15 => ?_) (fun c15 => ?_)
        · have h := ip h c15
          refine G_iconst (v := 0) hc dX0_gain_75 (by decide) ?_
          have h := Option.some.inj h
          subst h
          refine G_lv (lv' := []) lsame_nil ?_
          exact hj13
        · have h := inn h c15
          refine G_iconst (v := 1) hc dX0_gain_71 (by decide) ?_
          refine G_goto (tgt := 76) hc dX0_gain_72 (by decide) ?_
          have h := Option.some.inj h
          subst h
          refine G_lv (lv' := []) lsame_nil ?_
          exact hj13
    · have h := inn h c11
      by_cases c17 : q_which = (2 : Int32)
      · have h := ip h c17
        refine G_tableIn (tgt := 81) hc dX0_gain_4 (2 : Int32) c17 (by decide) (by decide) rfl (by decide) ?_
        refine G_aload_n hc dX0_gain_81 rfl ?_
        refine G_get hc f_X0_26 0 rfl rfl dX0_gain_82 ?_
        refine G_iload_n hc dX0_gain_85 rfl ?_
        obtain ⟨z18, hu19, h⟩ := ob h
        refine G_callNI (ws2 := [(h_q, .inr (0, [.int q_which, .int q_x, .int q_y, .int q_row, .int q_table]))]) hc m_X0_31 (c_X5_letterOf l D cI cS X F q_row a1 hu19) [] (rmok_of (Nat.le_of_ble_eq_true rfl)) ⟨Nat.zero_le _, Nat.zero_le _⟩ rfl rfl rfl rfl rfl ⟨rfl, rfl, rfl⟩ dX0_gain_86 ?_
        refine G_iload_n hc dX0_gain_89 rfl ?_
        obtain ⟨t20, hr22, h⟩ := ob h
        have hj21 : G p l e (rmk 2) s m [.ref h_q, .int a1, .int a2, .int a3].toArray below meth c D A 5 0 0 (QI below [.ref h_q, .int a1, .int a2, .int a3].toArray s D A (PoI res [(h_q, .inr (0, [.int q_which, .int q_x, .int q_y, .int q_row, .int q_table]))])) [(h_q, .inr (0, [.int q_which, .int q_x, .int q_y, .int q_row, .int q_table]))] [] 98 [.int t20] := by
          refine G_istore (lv' := [(4, .int t20)]) hc dX0_gain_98 rfl rfl ?_
          refine G_goto (tgt := 133) hc dX0_gain_100 (by decide) ?_
          have h := Option.some.inj h
          subst h
          refine G_lv (lv' := [(4, .int t20)]) (lsame_cons rfl lsame_nil) ?_
          exact hj2
        clear h
        have h := hr22
        clear hr22
        refine G_icmp_ne (tgt := 97) hc dX0_gain_90 (by decide) (fun c23 => ?_) (fun c23 => ?_)
        · have h := inn h c23
          refine G_iconst (v := 0) hc dX0_gain_97 (by decide) ?_
          have h := Option.some.inj h
          subst h
          refine G_lv (lv' := []) lsame_nil ?_
          exact hj21
        · have h := ip h c23
          refine G_iconst (v := 1) hc dX0_gain_93 (by decide) ?_
          refine G_goto (tgt := 98) hc dX0_gain_94 (by decide) ?_
          have h := Option.some.inj h
          subst h
          refine G_lv (lv' := []) lsame_nil ?_
          exact hj21
      · have h := inn h c17
        refine G_tableOut (tgt := 103) hc dX0_gain_4 (sw_out_0_2 c4 c11 c17) (by decide) ?_
        refine G_iload_n hc dX0_gain_103 rfl ?_
        refine G_iconst (v := 2) hc dX0_gain_104 (by decide) ?_
        refine G_irem hc dX0_gain_105 (by decide) ?_
        refine G_iconst (v := 1) hc dX0_gain_106 (by decide) ?_
        obtain ⟨t24, hr26, h⟩ := ob h
        have hj25 : G p l e (rmk 2) s m [.ref h_q, .int a1, .int a2, .int a3].toArray below meth c D A 5 0 0 (QI below [.ref h_q, .int a1, .int a2, .int a3].toArray s D A (PoI res [(h_q, .inr (0, [.int q_which, .int q_x, .int q_y, .int q_row, .int q_table]))])) [(h_q, .inr (0, [.int q_which, .int q_x, .int q_y, .int q_row, .int q_table]))] [] 131 [.int t24] := by
          refine G_istore (lv' := [(4, .int t24)]) hc dX0_gain_131 rfl rfl ?_
          have h := Option.some.inj h
          subst h
          refine G_lv (lv' := [(4, .int t24)]) (lsame_cons rfl lsame_nil) ?_
          exact hj2
        clear h
        have h := hr26
        clear hr26
        refine G_icmp_ne (tgt := 130) hc dX0_gain_107 (by decide) (fun c30 => ?_) (fun c30 => ?_)
        · have h := inn h c30
          refine G_iconst (v := 0) hc dX0_gain_130 (by decide) ?_
          have h := Option.some.inj h
          subst h
          refine G_lv (lv' := []) lsame_nil ?_
          exact hj25
        · have h := ip h c30
          refine G_aload_n hc dX0_gain_110 rfl ?_
          refine G_get hc f_X0_30 0 rfl rfl dX0_gain_111 ?_
          refine G_iload_n hc dX0_gain_114 rfl ?_
          refine G_iload_n hc dX0_gain_115 rfl ?_
          obtain ⟨z27, hu28, h⟩ := ob h
          refine G_callNI (ws2 := [(h_q, .inr (0, [.int q_which, .int q_x, .int q_y, .int q_row, .int q_table]))]) hc m_X0_35 (c_X5_codeIn l D cI cS X F q_table a2 a3 hu28) [] (rmok_of (Nat.le_of_ble_eq_true rfl)) ⟨Nat.zero_le _, Nat.zero_le _⟩ rfl rfl rfl rfl rfl ⟨rfl, rfl, rfl⟩ dX0_gain_116 ?_
          refine G_aload_n hc dX0_gain_119 rfl ?_
          refine G_get hc f_X0_15 0 rfl rfl dX0_gain_120 ?_
          refine G_icmp_ne (tgt := 130) hc dX0_gain_123 (by decide) (fun c29 => ?_) (fun c29 => ?_)
          · have h := inn h c29
            refine G_iconst (v := 0) hc dX0_gain_130 (by decide) ?_
            have h := Option.some.inj h
            subst h
            refine G_lv (lv' := []) lsame_nil ?_
            exact hj25
          · have h := ip h c29
            refine G_iconst (v := 1) hc dX0_gain_126 (by decide) ?_
            refine G_goto (tgt := 131) hc dX0_gain_127 (by decide) ?_
            have h := Option.some.inj h
            subst h
            refine G_lv (lv' := []) lsame_nil ?_
            exact hj25
set_option maxHeartbeats 4000000 in
set_option maxRecDepth 100000 in
theorem c_X4_gain (l : Launch) (D : va_G) (cI cS : ClassId) (X : XP) (F : Nat) (h_w h_w_stock h_w_weight h_w_known h_w_found h_wM : Nat) (w_measure : Bool) (w_values : Int32) (w_row : Int32) (w_rowCodes : Int32) (w_table : Int32) (w_length : Int32) (w_full : Int32) (w_pairs : Int32) (w_codes : Int32) (w_stock : Nat → Int32) (w_weight : Nat → Int32) (w_known : Nat → Int32) (w_found : Nat → Int32) (wM_which : Int32) (wM_x : Int32) (wM_y : Int32) (wM_row : Int32) (wM_table : Int32) (a1 : Int32) (a2 : Int32) (a3 : Int32) {res : Int32} (h : f_X4_gain F w_measure wM_which wM_x wM_y wM_row wM_table a1 a2 a3 = some res) : CtI l D cI cS X yX4_gain cX4_gain 4 (some .int) 3 [.ref h_w, .int a1, .int a2, .int a3] [(h_w, .inr (4, [.ref h_w_stock, .ref h_w_weight, .ref h_w_known, .ref h_w_found, nv w_measure h_wM, .int w_values, .int w_row, .int w_rowCodes, .int w_table, .int w_length, .int w_full, .int w_pairs, .int w_codes])), (h_w_stock, .inl (cI, 16, .inl w_stock)), (h_w_weight, .inl (cI, 16, .inl w_weight)), (h_w_known, .inl (cI, 577, .inl w_known)), (h_w_found, .inl (cI, 6347, .inl w_found)), (h_wM, .inr (0, [.int wM_which, .int wM_x, .int wM_y, .int wM_row, .int wM_table]))] (PoI res [(h_w, .inr (4, [.ref h_w_stock, .ref h_w_weight, .ref h_w_known, .ref h_w_found, nv w_measure h_wM, .int w_values, .int w_row, .int w_rowCodes, .int w_table, .int w_length, .int w_full, .int w_pairs, .int w_codes])), (h_w_stock, .inl (cI, 16, .inl w_stock)), (h_w_weight, .inl (cI, 16, .inl w_weight)), (h_w_known, .inl (cI, 577, .inl w_known)), (h_w_found, .inl (cI, 6347, .inl w_found)), (h_wM, .inr (0, [.int wM_which, .int wM_x, .int wM_y, .int wM_row, .int wM_table]))]) := by
  refine CtI.of (by decide +kernel) rfl ?_
  intro p e s m below meth c A hc
  refine G_lv (lv' := [(0, .ref h_w), (1, .int a1), (2, .int a2), (3, .int a3)]) (lsame_cons rfl (lsame_cons rfl (lsame_cons rfl (lsame_cons rfl lsame_nil)))) ?_
  unfold f_X4_gain at h
  refine G_aload_n hc dX4_gain_0 rfl ?_
  refine G_get hc f_X4_24 0 rfl rfl dX4_gain_1 ?_
  obtain ⟨t1, hr3, h⟩ := ob h
  have hj2 : G p l e (rmk 3) s m [.ref h_w, .int a1, .int a2, .int a3].toArray below meth c D A 4 0 0 (QI below [.ref h_w, .int a1, .int a2, .int a3].toArray s D A (PoI res [(h_w, .inr (4, [.ref h_w_stock, .ref h_w_weight, .ref h_w_known, .ref h_w_found, nv w_measure h_wM, .int w_values, .int w_row, .int w_rowCodes, .int w_table, .int w_length, .int w_full, .int w_pairs, .int w_codes])), (h_w_stock, .inl (cI, 16, .inl w_stock)), (h_w_weight, .inl (cI, 16, .inl w_weight)), (h_w_known, .inl (cI, 577, .inl w_known)), (h_w_found, .inl (cI, 6347, .inl w_found)), (h_wM, .inr (0, [.int wM_which, .int wM_x, .int wM_y, .int wM_row, .int wM_table]))])) [(h_w, .inr (4, [.ref h_w_stock, .ref h_w_weight, .ref h_w_known, .ref h_w_found, nv w_measure h_wM, .int w_values, .int w_row, .int w_rowCodes, .int w_table, .int w_length, .int w_full, .int w_pairs, .int w_codes])), (h_w_stock, .inl (cI, 16, .inl w_stock)), (h_w_weight, .inl (cI, 16, .inl w_weight)), (h_w_known, .inl (cI, 577, .inl w_known)), (h_w_found, .inl (cI, 6347, .inl w_found)), (h_wM, .inr (0, [.int wM_which, .int wM_x, .int wM_y, .int wM_row, .int wM_table]))] [] 21 [.int t1] := by
    have h := Option.some.inj h
    subst h
    exact G_ireturn hc ⟨rfl, rfl⟩ dX4_gain_21
  clear h
  have h := hr3
  clear hr3
  refine G_nonnullB (tgt := 11) hc dX4_gain_4 (by decide) (fun c4 => ?_) (fun c4 => ?_)
  · have h := ip h c4
    refine G_aload_n hc dX4_gain_11 rfl ?_
    refine G_get hc f_X4_24 0 rfl rfl dX4_gain_12 ?_
    refine G_iload_n hc dX4_gain_15 rfl ?_
    refine G_iload_n hc dX4_gain_16 rfl ?_
    refine G_iload_n hc dX4_gain_17 rfl ?_
    refine G_st (st' := [.int a3, .int a2, .int a1, .ref h_wM]) (by simp only [c4]; first | done | rfl) ?_
    obtain ⟨z5, hu6, h⟩ := ob h
    refine G_callVI (ws2 := [(h_w, .inr (4, [.ref h_w_stock, .ref h_w_weight, .ref h_w_known, .ref h_w_found, nv w_measure h_wM, .int w_values, .int w_row, .int w_rowCodes, .int w_table, .int w_length, .int w_full, .int w_pairs, .int w_codes])), (h_w_stock, .inl (cI, 16, .inl w_stock)), (h_w_weight, .inl (cI, 16, .inl w_weight)), (h_w_known, .inl (cI, 577, .inl w_known)), (h_w_found, .inl (cI, 6347, .inl w_found)), (h_wM, .inr (0, [.int wM_which, .int wM_x, .int wM_y, .int wM_row, .int wM_table]))]) hc m_X4_135 (c_X0_gain l D cI cS X F h_wM wM_which wM_x wM_y wM_row wM_table a1 a2 a3 hu6) 5 [5] rfl rfl (rmok_of (Nat.le_of_ble_eq_true rfl)) ⟨Nat.zero_le _, Nat.zero_le _⟩ rfl rfl rfl rfl rfl ⟨rfl, rfl, rfl⟩ dX4_gain_18 ?_
    have h := Option.some.inj h
    subst h
    refine G_lv (lv' := []) lsame_nil ?_
    exact hj2
  · have h := inn h c4
    refine G_iconst (v := 0) hc dX4_gain_7 (by decide) ?_
    refine G_goto (tgt := 21) hc dX4_gain_8 (by decide) ?_
    have h := Option.some.inj h
    subst h
    refine G_lv (lv' := []) lsame_nil ?_
    exact hj2
set_option maxHeartbeats 4000000 in
set_option maxRecDepth 100000 in
theorem c_X4_number (l : Launch) (D : va_G) (cI cS : ClassId) (X : XP) (F : Nat) (h_w h_w_stock h_w_weight h_w_known h_w_found h_wM : Nat) (w_measure : Bool) (w_values : Int32) (w_row : Int32) (w_rowCodes : Int32) (w_table : Int32) (w_length : Int32) (w_full : Int32) (w_pairs : Int32) (w_codes : Int32) (w_stock : Nat → Int32) (w_weight : Nat → Int32) (w_known : Nat → Int32) (w_found : Nat → Int32) (wM_which : Int32) (wM_x : Int32) (wM_y : Int32) (wM_row : Int32) (wM_table : Int32) (a1 : Int32) (a2 : Int32) {res : Int32} (h : f_X4_number F w_found a1 a2 = some res) : CtI l D cI cS X yX4_number cX4_number 5 (some .int) 1 [.ref h_w, .int a1, .int a2] [(h_w, .inr (4, [.ref h_w_stock, .ref h_w_weight, .ref h_w_known, .ref h_w_found, nv w_measure h_wM, .int w_values, .int w_row, .int w_rowCodes, .int w_table, .int w_length, .int w_full, .int w_pairs, .int w_codes])), (h_w_stock, .inl (cI, 16, .inl w_stock)), (h_w_weight, .inl (cI, 16, .inl w_weight)), (h_w_known, .inl (cI, 577, .inl w_known)), (h_w_found, .inl (cI, 6347, .inl w_found)), (h_wM, .inr (0, [.int wM_which, .int wM_x, .int wM_y, .int wM_row, .int wM_table]))] (PoI res [(h_w, .inr (4, [.ref h_w_stock, .ref h_w_weight, .ref h_w_known, .ref h_w_found, nv w_measure h_wM, .int w_values, .int w_row, .int w_rowCodes, .int w_table, .int w_length, .int w_full, .int w_pairs, .int w_codes])), (h_w_stock, .inl (cI, 16, .inl w_stock)), (h_w_weight, .inl (cI, 16, .inl w_weight)), (h_w_known, .inl (cI, 577, .inl w_known)), (h_w_found, .inl (cI, 6347, .inl w_found)), (h_wM, .inr (0, [.int wM_which, .int wM_x, .int wM_y, .int wM_row, .int wM_table]))]) := by
  refine CtI.of (by decide +kernel) rfl ?_
  intro p e s m below meth c A hc
  refine G_lv (lv' := [(0, .ref h_w), (1, .int a1), (2, .int a2)]) (lsame_cons rfl (lsame_cons rfl (lsame_cons rfl lsame_nil))) ?_
  unfold f_X4_number at h
  refine G_iload_n hc dX4_number_0 rfl ?_
  refine G_bipush (v := 11) hc dX4_number_1 (by decide) ?_
  refine G_imul hc dX4_number_3 ?_
  refine G_iload_n hc dX4_number_4 rfl ?_
  refine G_iadd hc dX4_number_5 ?_
  obtain ⟨v1, e_v1, h⟩ := sb h
  refine G_top e_v1 ?_
  refine G_istore_n (lv' := [(0, .ref h_w), (1, .int a1), (2, .int a2), (3, .int v1)]) hc dX4_number_6 rfl rfl ?_
  refine G_iload_n hc dX4_number_7 rfl ?_
  obtain ⟨t2, hr4, h⟩ := ob h
  have hj3 : G p l e (rmk 1) s m [.ref h_w, .int a1, .int a2].toArray below meth c D A 5 0 0 (QI below [.ref h_w, .int a1, .int a2].toArray s D A (PoI res [(h_w, .inr (4, [.ref h_w_stock, .ref h_w_weight, .ref h_w_known, .ref h_w_found, nv w_measure h_wM, .int w_values, .int w_row, .int w_rowCodes, .int w_table, .int w_length, .int w_full, .int w_pairs, .int w_codes])), (h_w_stock, .inl (cI, 16, .inl w_stock)), (h_w_weight, .inl (cI, 16, .inl w_weight)), (h_w_known, .inl (cI, 577, .inl w_known)), (h_w_found, .inl (cI, 6347, .inl w_found)), (h_wM, .inr (0, [.int wM_which, .int wM_x, .int wM_y, .int wM_row, .int wM_table]))])) [(h_w, .inr (4, [.ref h_w_stock, .ref h_w_weight, .ref h_w_known, .ref h_w_found, nv w_measure h_wM, .int w_values, .int w_row, .int w_rowCodes, .int w_table, .int w_length, .int w_full, .int w_pairs, .int w_codes])), (h_w_stock, .inl (cI, 16, .inl w_stock)), (h_w_weight, .inl (cI, 16, .inl w_weight)), (h_w_known, .inl (cI, 577, .inl w_known)), (h_w_found, .inl (cI, 6347, .inl w_found)), (h_wM, .inr (0, [.int wM_which, .int wM_x, .int wM_y, .int wM_row, .int wM_table]))] [(0, .ref h_w), (3, .int v1)] 35 [.int t2] := by
    refine G_istore (lv' := [(0, .ref h_w), (3, .int v1), (4, .int t2)]) hc dX4_number_35 rfl rfl ?_
    refine G_iload hc dX4_number_37 rfl ?_
    obtain ⟨t9, hr11, h⟩ := ob h
    have hj10 : G p l e (rmk 1) s m [.ref h_w, .int a1, .int a2].toArray below meth c D A 5 0 0 (QI below [.ref h_w, .int a1, .int a2].toArray s D A (PoI res [(h_w, .inr (4, [.ref h_w_stock, .ref h_w_weight, .ref h_w_known, .ref h_w_found, nv w_measure h_wM, .int w_values, .int w_row, .int w_rowCodes, .int w_table, .int w_length, .int w_full, .int w_pairs, .int w_codes])), (h_w_stock, .inl (cI, 16, .inl w_stock)), (h_w_weight, .inl (cI, 16, .inl w_weight)), (h_w_known, .inl (cI, 577, .inl w_known)), (h_w_found, .inl (cI, 6347, .inl w_found)), (h_wM, .inr (0, [.int wM_which, .int wM_x, .int wM_y, .int wM_row, .int wM_table]))])) [(h_w, .inr (4, [.ref h_w_stock, .ref h_w_weight, .ref h_w_known, .ref h_w_found, nv w_measure h_wM, .int w_values, .int w_row, .int w_rowCodes, .int w_table, .int w_length, .int w_full, .int w_pairs, .int w_codes])), (h_w_stock, .inl (cI, 16, .inl w_stock)), (h_w_weight, .inl (cI, 16, .inl w_weight)), (h_w_known, .inl (cI, 577, .inl w_known)), (h_w_found, .inl (cI, 6347, .inl w_found)), (h_wM, .inr (0, [.int wM_which, .int wM_x, .int wM_y, .int wM_row, .int wM_table]))] [] 52 [.int t9] := by
      have h := Option.some.inj h
      subst h
      exact G_ireturn hc ⟨rfl, rfl⟩ dX4_number_52
    clear h
    have h := hr11
    clear hr11
    refine G_if_eq (tgt := 51) hc dX4_number_39 (by decide) (fun c13 => ?_) (fun c13 => ?_)
    · have h := ip h c13
      refine G_iconst (v := 0) hc dX4_number_51 (by decide) ?_
      have h := Option.some.inj h
      subst h
      refine G_lv (lv' := []) lsame_nil ?_
      exact hj10
    · have h := inn h c13
      refine G_aload_n hc dX4_number_42 rfl ?_
      refine G_get hc f_X4_21 0 rfl rfl dX4_number_43 ?_
      refine G_iload_n hc dX4_number_46 rfl ?_
      obtain ⟨v12, i_v12, e_v12, h⟩ := rb h
      refine G_iald hc 4 rfl i_v12 e_v12 dX4_number_47 ?_
      refine G_goto (tgt := 52) hc dX4_number_48 (by decide) ?_
      have h := Option.some.inj h
      subst h
      refine G_lv (lv' := []) lsame_nil ?_
      exact hj10
  clear h
  have h := hr4
  clear hr4
  refine G_if_lt (tgt := 34) hc dX4_number_8 (by decide) (fun c8 => ?_) (fun c8 => ?_)
  · have h := ip h c8
    refine G_iconst (v := 0) hc dX4_number_34 (by decide) ?_
    have h := Option.some.inj h
    subst h
    refine G_lv (lv' := [(0, .ref h_w), (3, .int v1)]) (lsame_cons rfl (lsame_cons rfl lsame_nil)) ?_
    exact hj3
  · have h := inn h c8
    refine G_iload_n hc dX4_number_11 rfl ?_
    refine G_bipush (v := 11) hc dX4_number_12 (by decide) ?_
    refine G_icmp_ge (tgt := 34) hc dX4_number_14 (by decide) (fun c7 => ?_) (fun c7 => ?_)
    · have h := ip h c7
      refine G_iconst (v := 0) hc dX4_number_34 (by decide) ?_
      have h := Option.some.inj h
      subst h
      refine G_lv (lv' := [(0, .ref h_w), (3, .int v1)]) (lsame_cons rfl (lsame_cons rfl lsame_nil)) ?_
      exact hj3
    · have h := inn h c7
      refine G_iload_n hc dX4_number_17 rfl ?_
      refine G_if_lt (tgt := 34) hc dX4_number_18 (by decide) (fun c6 => ?_) (fun c6 => ?_)
      · have h := ip h c6
        refine G_iconst (v := 0) hc dX4_number_34 (by decide) ?_
        have h := Option.some.inj h
        subst h
        refine G_lv (lv' := [(0, .ref h_w), (3, .int v1)]) (lsame_cons rfl (lsame_cons rfl lsame_nil)) ?_
        exact hj3
      · have h := inn h c6
        refine G_iload_n hc dX4_number_21 rfl ?_
        refine G_aload_n hc dX4_number_22 rfl ?_
        refine G_get hc f_X4_21 0 rfl rfl dX4_number_23 ?_
        refine G_alen (v := 6347) hc 4 rfl (by decide) dX4_number_26 ?_
        refine G_icmp_ge (tgt := 34) hc dX4_number_27 (by decide) (fun c5 => ?_) (fun c5 => ?_)
        · have h := ip h c5
          refine G_iconst (v := 0) hc dX4_number_34 (by decide) ?_
          have h := Option.some.inj h
          subst h
          refine G_lv (lv' := [(0, .ref h_w), (3, .int v1)]) (lsame_cons rfl (lsame_cons rfl lsame_nil)) ?_
          exact hj3
        · have h := inn h c5
          refine G_iconst (v := 1) hc dX4_number_30 (by decide) ?_
          refine G_goto (tgt := 35) hc dX4_number_31 (by decide) ?_
          have h := Option.some.inj h
          subst h
          refine G_lv (lv' := [(0, .ref h_w), (3, .int v1)]) (lsame_cons rfl (lsame_cons rfl lsame_nil)) ?_
          exact hj3
set_option maxHeartbeats 4000000 in
set_option maxRecDepth 100000 in
theorem c_X4_add (l : Launch) (D : va_G) (cI cS : ClassId) (X : XP) (F : Nat) (h_w h_w_stock h_w_weight h_w_known h_w_found h_wM : Nat) (w_measure : Bool) (w_values : Int32) (w_row : Int32) (w_rowCodes : Int32) (w_table : Int32) (w_length : Int32) (w_full : Int32) (w_pairs : Int32) (w_codes : Int32) (w_stock : Nat → Int32) (w_weight : Nat → Int32) (w_known : Nat → Int32) (w_found : Nat → Int32) (wM_which : Int32) (wM_x : Int32) (wM_y : Int32) (wM_row : Int32) (wM_table : Int32) (a1 : Int32) (a2 : Int32) (a3 : Int32) {res : (Nat → Int32)} (h : f_X4_add F w_found a1 a2 a3 = some res) : CtV l D cI cS X yX4_add cX4_add 5 1 [.ref h_w, .int a1, .int a2, .int a3] [(h_w, .inr (4, [.ref h_w_stock, .ref h_w_weight, .ref h_w_known, .ref h_w_found, nv w_measure h_wM, .int w_values, .int w_row, .int w_rowCodes, .int w_table, .int w_length, .int w_full, .int w_pairs, .int w_codes])), (h_w_stock, .inl (cI, 16, .inl w_stock)), (h_w_weight, .inl (cI, 16, .inl w_weight)), (h_w_known, .inl (cI, 577, .inl w_known)), (h_w_found, .inl (cI, 6347, .inl w_found)), (h_wM, .inr (0, [.int wM_which, .int wM_x, .int wM_y, .int wM_row, .int wM_table]))] (PoV [(h_w, .inr (4, [.ref h_w_stock, .ref h_w_weight, .ref h_w_known, .ref h_w_found, nv w_measure h_wM, .int w_values, .int w_row, .int w_rowCodes, .int w_table, .int w_length, .int w_full, .int w_pairs, .int w_codes])), (h_w_stock, .inl (cI, 16, .inl w_stock)), (h_w_weight, .inl (cI, 16, .inl w_weight)), (h_w_known, .inl (cI, 577, .inl w_known)), (h_w_found, .inl (cI, 6347, .inl res)), (h_wM, .inr (0, [.int wM_which, .int wM_x, .int wM_y, .int wM_row, .int wM_table]))]) := by
  refine CtV.of (by decide +kernel) rfl ?_
  intro p e s m below meth c A hc
  refine G_lv (lv' := [(0, .ref h_w), (1, .int a1), (2, .int a2), (3, .int a3)]) (lsame_cons rfl (lsame_cons rfl (lsame_cons rfl (lsame_cons rfl lsame_nil)))) ?_
  unfold f_X4_add at h
  refine G_iload_n hc dX4_add_0 rfl ?_
  refine G_bipush (v := 11) hc dX4_add_1 (by decide) ?_
  refine G_imul hc dX4_add_3 ?_
  refine G_iload_n hc dX4_add_4 rfl ?_
  refine G_iadd hc dX4_add_5 ?_
  obtain ⟨v1, e_v1, h⟩ := sb h
  refine G_top e_v1 ?_
  refine G_istore (lv' := [(0, .ref h_w), (1, .int a1), (2, .int a2), (3, .int a3), (4, .int v1)]) hc dX4_add_6 rfl rfl ?_
  refine G_iload_n hc dX4_add_8 rfl ?_
  obtain ⟨t2, hr4, h⟩ := ob h
  have hj3 : G p l e (rmk 1) s m [.ref h_w, .int a1, .int a2, .int a3].toArray below meth c D A 5 0 0 (QV below [.ref h_w, .int a1, .int a2, .int a3].toArray s D A (PoV [(h_w, .inr (4, [.ref h_w_stock, .ref h_w_weight, .ref h_w_known, .ref h_w_found, nv w_measure h_wM, .int w_values, .int w_row, .int w_rowCodes, .int w_table, .int w_length, .int w_full, .int w_pairs, .int w_codes])), (h_w_stock, .inl (cI, 16, .inl w_stock)), (h_w_weight, .inl (cI, 16, .inl w_weight)), (h_w_known, .inl (cI, 577, .inl w_known)), (h_w_found, .inl (cI, 6347, .inl res)), (h_wM, .inr (0, [.int wM_which, .int wM_x, .int wM_y, .int wM_row, .int wM_table]))])) [(h_w, .inr (4, [.ref h_w_stock, .ref h_w_weight, .ref h_w_known, .ref h_w_found, nv w_measure h_wM, .int w_values, .int w_row, .int w_rowCodes, .int w_table, .int w_length, .int w_full, .int w_pairs, .int w_codes])), (h_w_stock, .inl (cI, 16, .inl w_stock)), (h_w_weight, .inl (cI, 16, .inl w_weight)), (h_w_known, .inl (cI, 577, .inl w_known)), (h_w_found, .inl (cI, 6347, .inl t2)), (h_wM, .inr (0, [.int wM_which, .int wM_x, .int wM_y, .int wM_row, .int wM_table]))] [] 44 [] := by
    have h := Option.some.inj h
    subst h
    exact G_return hc rfl dX4_add_44
  clear h
  have h := hr4
  clear hr4
  refine G_if_lt (tgt := 44) hc dX4_add_9 (by decide) (fun c10 => ?_) (fun c10 => ?_)
  · have h := ip h c10
    have h := Option.some.inj h
    subst h
    refine G_lv (lv' := []) lsame_nil ?_
    exact hj3
  · have h := inn h c10
    refine G_iload_n hc dX4_add_12 rfl ?_
    refine G_bipush (v := 11) hc dX4_add_13 (by decide) ?_
    refine G_icmp_ge (tgt := 44) hc dX4_add_15 (by decide) (fun c9 => ?_) (fun c9 => ?_)
    · have h := ip h c9
      have h := Option.some.inj h
      subst h
      refine G_lv (lv' := []) lsame_nil ?_
      exact hj3
    · have h := inn h c9
      refine G_iload hc dX4_add_18 rfl ?_
      refine G_if_lt (tgt := 44) hc dX4_add_20 (by decide) (fun c8 => ?_) (fun c8 => ?_)
      · have h := ip h c8
        have h := Option.some.inj h
        subst h
        refine G_lv (lv' := []) lsame_nil ?_
        exact hj3
      · have h := inn h c8
        refine G_iload hc dX4_add_23 rfl ?_
        refine G_aload_n hc dX4_add_25 rfl ?_
        refine G_get hc f_X4_21 0 rfl rfl dX4_add_26 ?_
        refine G_alen (v := 6347) hc 4 rfl (by decide) dX4_add_29 ?_
        refine G_icmp_ge (tgt := 44) hc dX4_add_30 (by decide) (fun c7 => ?_) (fun c7 => ?_)
        · have h := ip h c7
          have h := Option.some.inj h
          subst h
          refine G_lv (lv' := []) lsame_nil ?_
          exact hj3
        · have h := inn h c7
          refine G_aload_n hc dX4_add_33 rfl ?_
          refine G_get hc f_X4_21 0 rfl rfl dX4_add_34 ?_
          refine G_iload hc dX4_add_37 rfl ?_
          refine G_dup2 hc dX4_add_39 rfl rfl ?_
          obtain ⟨v5, i_v5, e_v5, h⟩ := rb h
          refine G_iald hc 4 rfl i_v5 e_v5 dX4_add_40 ?_
          refine G_iload_n hc dX4_add_41 rfl ?_
          refine G_iadd hc dX4_add_42 ?_
          obtain ⟨v6, i_v6, e_v6, h⟩ := wb h
          refine G_iast (ws' := [(h_w, .inr (4, [.ref h_w_stock, .ref h_w_weight, .ref h_w_known, .ref h_w_found, nv w_measure h_wM, .int w_values, .int w_row, .int w_rowCodes, .int w_table, .int w_length, .int w_full, .int w_pairs, .int w_codes])), (h_w_stock, .inl (cI, 16, .inl w_stock)), (h_w_weight, .inl (cI, 16, .inl w_weight)), (h_w_known, .inl (cI, 577, .inl w_known)), (h_w_found, .inl (cI, 6347, .inl v6)), (h_wM, .inr (0, [.int wM_which, .int wM_x, .int wM_y, .int wM_row, .int wM_table]))]) hc 4 rfl i_v6 e_v6 rfl dX4_add_43 ?_
          have h := Option.some.inj h
          subst h
          refine G_lv (lv' := []) lsame_nil ?_
          exact hj3
set_option maxHeartbeats 4000000 in
set_option maxRecDepth 100000 in
theorem c_X4_join (l : Launch) (D : va_G) (cI cS : ClassId) (X : XP) (F : Nat) (h_w h_w_stock h_w_weight h_w_known h_w_found h_wM : Nat) (w_measure : Bool) (w_values : Int32) (w_row : Int32) (w_rowCodes : Int32) (w_table : Int32) (w_length : Int32) (w_full : Int32) (w_pairs : Int32) (w_codes : Int32) (w_stock : Nat → Int32) (w_weight : Nat → Int32) (w_known : Nat → Int32) (w_found : Nat → Int32) (wM_which : Int32) (wM_x : Int32) (wM_y : Int32) (wM_row : Int32) (wM_table : Int32) (a1 : Int32) (a2 : Int32) (a3 : Int32) {res : (Nat → Int32)} (h : f_X4_join F w_values w_found a1 a2 a3 = some res) : CtV l D cI cS X yX4_join cX4_join 5 2 [.ref h_w, .int a1, .int a2, .int a3] [(h_w, .inr (4, [.ref h_w_stock, .ref h_w_weight, .ref h_w_known, .ref h_w_found, nv w_measure h_wM, .int w_values, .int w_row, .int w_rowCodes, .int w_table, .int w_length, .int w_full, .int w_pairs, .int w_codes])), (h_w_stock, .inl (cI, 16, .inl w_stock)), (h_w_weight, .inl (cI, 16, .inl w_weight)), (h_w_known, .inl (cI, 577, .inl w_known)), (h_w_found, .inl (cI, 6347, .inl w_found)), (h_wM, .inr (0, [.int wM_which, .int wM_x, .int wM_y, .int wM_row, .int wM_table]))] (PoV [(h_w, .inr (4, [.ref h_w_stock, .ref h_w_weight, .ref h_w_known, .ref h_w_found, nv w_measure h_wM, .int w_values, .int w_row, .int w_rowCodes, .int w_table, .int w_length, .int w_full, .int w_pairs, .int w_codes])), (h_w_stock, .inl (cI, 16, .inl w_stock)), (h_w_weight, .inl (cI, 16, .inl w_weight)), (h_w_known, .inl (cI, 577, .inl w_known)), (h_w_found, .inl (cI, 6347, .inl res)), (h_wM, .inr (0, [.int wM_which, .int wM_x, .int wM_y, .int wM_row, .int wM_table]))]) := by
  refine CtV.of (by decide +kernel) rfl ?_
  intro p e s m below meth c A hc
  refine G_lv (lv' := [(0, .ref h_w), (1, .int a1), (2, .int a2), (3, .int a3)]) (lsame_cons rfl (lsame_cons rfl (lsame_cons rfl (lsame_cons rfl lsame_nil)))) ?_
  unfold f_X4_join at h
  refine G_iconst (v := 0) hc dX4_join_0 (by decide) ?_
  refine G_istore (lv' := [(0, .ref h_w), (1, .int a1), (2, .int a2), (3, .int a3), (4, .int (0 : Int32))]) hc dX4_join_1 rfl rfl ?_
  obtain ⟨e3, hl4, h⟩ := ob h
  have hK8 : G p l e (rmk 2) s m [.ref h_w, .int a1, .int a2, .int a3].toArray below meth c D A 5 0 0 (QV below [.ref h_w, .int a1, .int a2, .int a3].toArray s D A (PoV [(h_w, .inr (4, [.ref h_w_stock, .ref h_w_weight, .ref h_w_known, .ref h_w_found, nv w_measure h_wM, .int w_values, .int w_row, .int w_rowCodes, .int w_table, .int w_length, .int w_full, .int w_pairs, .int w_codes])), (h_w_stock, .inl (cI, 16, .inl w_stock)), (h_w_weight, .inl (cI, 16, .inl w_weight)), (h_w_known, .inl (cI, 577, .inl w_known)), (h_w_found, .inl (cI, 6347, .inl res)), (h_wM, .inr (0, [.int wM_which, .int wM_x, .int wM_y, .int wM_row, .int wM_table]))])) [(h_w, .inr (4, [.ref h_w_stock, .ref h_w_weight, .ref h_w_known, .ref h_w_found, nv w_measure h_wM, .int w_values, .int w_row, .int w_rowCodes, .int w_table, .int w_length, .int w_full, .int w_pairs, .int w_codes])), (h_w_stock, .inl (cI, 16, .inl w_stock)), (h_w_weight, .inl (cI, 16, .inl w_weight)), (h_w_known, .inl (cI, 577, .inl w_known)), (h_w_found, .inl (cI, 6347, .inl e3)), (h_wM, .inr (0, [.int wM_which, .int wM_x, .int wM_y, .int wM_row, .int wM_table]))] [] 36 [] := by
    have h := Option.some.inj h
    subst h
    exact G_return hc rfl dX4_join_36
  clear h
  have hL5 : ∀ (n6 : Nat) (u1 : Int32) (u2 : Nat → Int32), f_X4_join_L3 F w_values a1 a2 a3 n6 u1 u2 = some e3 → G p l e (rmk 2) s m [.ref h_w, .int a1, .int a2, .int a3].toArray below meth c D A 5 0 0 (QV below [.ref h_w, .int a1, .int a2, .int a3].toArray s D A (PoV [(h_w, .inr (4, [.ref h_w_stock, .ref h_w_weight, .ref h_w_known, .ref h_w_found, nv w_measure h_wM, .int w_values, .int w_row, .int w_rowCodes, .int w_table, .int w_length, .int w_full, .int w_pairs, .int w_codes])), (h_w_stock, .inl (cI, 16, .inl w_stock)), (h_w_weight, .inl (cI, 16, .inl w_weight)), (h_w_known, .inl (cI, 577, .inl w_known)), (h_w_found, .inl (cI, 6347, .inl res)), (h_wM, .inr (0, [.int wM_which, .int wM_x, .int wM_y, .int wM_row, .int wM_table]))])) [(h_w, .inr (4, [.ref h_w_stock, .ref h_w_weight, .ref h_w_known, .ref h_w_found, nv w_measure h_wM, .int w_values, .int w_row, .int w_rowCodes, .int w_table, .int w_length, .int w_full, .int w_pairs, .int w_codes])), (h_w_stock, .inl (cI, 16, .inl w_stock)), (h_w_weight, .inl (cI, 16, .inl w_weight)), (h_w_known, .inl (cI, 577, .inl w_known)), (h_w_found, .inl (cI, 6347, .inl u2)), (h_wM, .inr (0, [.int wM_which, .int wM_x, .int wM_y, .int wM_row, .int wM_table]))] [(0, .ref h_w), (1, .int a1), (2, .int a2), (3, .int a3), (4, .int u1)] 3 [] := by
    intro n6
    induction n6 with
    | zero =>
      intro u1 u2 h
      exact nz h
    | succ n6 ih7 =>
      intro u1 u2 h
      rw [f_X4_join_L3] at h
      refine G_iload hc dX4_join_3 rfl ?_
      refine G_iload_n hc dX4_join_5 rfl ?_
      refine G_iadd hc dX4_join_6 ?_
      refine G_aload_n hc dX4_join_7 rfl ?_
      refine G_get hc f_X4_77 0 rfl rfl dX4_join_8 ?_
      refine G_icmp_ge (tgt := 36) hc dX4_join_11 (by decide) (fun c14 => ?_) (fun c14 => ?_)
      · have h := ip h c14
        have h := Option.some.inj h
        subst h
        refine G_lv (lv' := []) lsame_nil ?_
        exact hK8
      · have h := inn h c14
        refine G_aload_n hc dX4_join_14 rfl ?_
        refine G_iload_n hc dX4_join_15 rfl ?_
        refine G_iload hc dX4_join_16 rfl ?_
        refine G_iload_n hc dX4_join_18 rfl ?_
        refine G_iadd hc dX4_join_19 ?_
        refine G_aload_n hc dX4_join_20 rfl ?_
        refine G_iload_n hc dX4_join_21 rfl ?_
        refine G_iload hc dX4_join_22 rfl ?_
        obtain ⟨z9, hu10, h⟩ := ob h
        refine G_callVI (ws2 := [(h_w, .inr (4, [.ref h_w_stock, .ref h_w_weight, .ref h_w_known, .ref h_w_found, nv w_measure h_wM, .int w_values, .int w_row, .int w_rowCodes, .int w_table, .int w_length, .int w_full, .int w_pairs, .int w_codes])), (h_w_stock, .inl (cI, 16, .inl w_stock)), (h_w_weight, .inl (cI, 16, .inl w_weight)), (h_w_known, .inl (cI, 577, .inl w_known)), (h_w_found, .inl (cI, 6347, .inl u2)), (h_wM, .inr (0, [.int wM_which, .int wM_x, .int wM_y, .int wM_row, .int wM_table]))]) hc m_X4_138 (c_X4_number l D cI cS X F h_w h_w_stock h_w_weight h_w_known h_w_found h_wM w_measure w_values w_row w_rowCodes w_table w_length w_full w_pairs w_codes w_stock w_weight w_known u2 wM_which wM_x wM_y wM_row wM_table a2 u1 hu10) 0 [0, 1, 2, 3, 4, 5] rfl rfl (rmok_of (Nat.le_of_ble_eq_true rfl)) ⟨Nat.zero_le _, Nat.zero_le _⟩ rfl rfl rfl rfl rfl ⟨rfl, rfl, rfl⟩ dX4_join_24 ?_
        obtain ⟨z11, hu12, h⟩ := ob h
        refine G_callVV (ws2 := [(h_w, .inr (4, [.ref h_w_stock, .ref h_w_weight, .ref h_w_known, .ref h_w_found, nv w_measure h_wM, .int w_values, .int w_row, .int w_rowCodes, .int w_table, .int w_length, .int w_full, .int w_pairs, .int w_codes])), (h_w_stock, .inl (cI, 16, .inl w_stock)), (h_w_weight, .inl (cI, 16, .inl w_weight)), (h_w_known, .inl (cI, 577, .inl w_known)), (h_w_found, .inl (cI, 6347, .inl z11)), (h_wM, .inr (0, [.int wM_which, .int wM_x, .int wM_y, .int wM_row, .int wM_table]))]) hc m_X4_115 (c_X4_add l D cI cS X F h_w h_w_stock h_w_weight h_w_known h_w_found h_wM w_measure w_values w_row w_rowCodes w_table w_length w_full w_pairs w_codes w_stock w_weight w_known u2 wM_which wM_x wM_y wM_row wM_table a1 (u1 + a3) z9 hu12) 0 [0, 1, 2, 3, 4, 5] rfl rfl (rmok_of (Nat.le_of_ble_eq_true rfl)) ⟨Nat.zero_le _, Nat.zero_le _⟩ rfl rfl rfl rfl rfl ⟨rfl, rfl, rfl⟩ dX4_join_27 ?_
        obtain ⟨v13, e_v13, h⟩ := sb h
        refine G_iinc (v := v13) (lv' := [(0, .ref h_w), (1, .int a1), (2, .int a2), (3, .int a3), (4, .int v13)]) hc dX4_join_30 rfl (e_v13.trans rfl) rfl rfl ?_
        refine G_goto (tgt := 3) hc dX4_join_33 (by decide) ?_
        refine G_lv (lv' := [(0, .ref h_w), (1, .int a1), (2, .int a2), (3, .int a3), (4, .int v13)]) (lsame_cons rfl (lsame_cons rfl (lsame_cons rfl (lsame_cons rfl (lsame_cons rfl lsame_nil))))) ?_
        exact ih7 _ _ h
  refine G_lv (lv' := [(0, .ref h_w), (1, .int a1), (2, .int a2), (3, .int a3), (4, .int (0 : Int32))]) (lsame_cons rfl (lsame_cons rfl (lsame_cons rfl (lsame_cons rfl (lsame_cons rfl lsame_nil))))) ?_
  exact hL5 F _ _ hl4
set_option maxHeartbeats 4000000 in
set_option maxRecDepth 100000 in
theorem c_X4_solve_B (l : Launch) (D : va_G) (cI cS : ClassId) (X : XP) (F : Nat) (n0 : Nat) (hn0 : 4 ≤ n0) (h_w h_w_stock h_w_weight h_w_known h_w_found h_wM : Nat) (rec : (Bool) → (Int32) → (Int32) → (Int32) → (Int32) → (Int32) → (Int32) → (Int32) → (Nat → Int32) → (Nat → Int32) → (Nat → Int32) → (Nat → Int32) → (Int32) → (Int32) → (Int32) → (Int32) → (Int32) → (Int32) → (Int32) → (Int32) → Option ((Nat → Int32) × (Nat → Int32))) (hrec : ∀ (w_measure : Bool) (w_values : Int32) (w_row : Int32) (w_rowCodes : Int32) (w_table : Int32) (w_length : Int32) (w_full : Int32) (w_pairs : Int32) (w_codes : Int32) (w_stock : Nat → Int32) (w_weight : Nat → Int32) (w_known : Nat → Int32) (w_found : Nat → Int32) (wM_which : Int32) (wM_x : Int32) (wM_y : Int32) (wM_row : Int32) (wM_table : Int32) (a1 : Int32) (a2 : Int32) (a3 : Int32) (res : (Nat → Int32) × (Nat → Int32)), rec w_measure w_values w_row w_rowCodes w_table w_length w_pairs w_codes w_stock w_weight w_known w_found wM_which wM_x wM_y wM_row wM_table a1 a2 a3 = some res → CtV l D cI cS X yX4_solve cX4_solve 7 n0 [.ref h_w, .int a1, .int a2, .int a3] [(h_w, .inr (4, [.ref h_w_stock, .ref h_w_weight, .ref h_w_known, .ref h_w_found, nv w_measure h_wM, .int w_values, .int w_row, .int w_rowCodes, .int w_table, .int w_length, .int w_full, .int w_pairs, .int w_codes])), (h_w_stock, .inl (cI, 16, .inl w_stock)), (h_w_weight, .inl (cI, 16, .inl w_weight)), (h_w_known, .inl (cI, 577, .inl w_known)), (h_w_found, .inl (cI, 6347, .inl w_found)), (h_wM, .inr (0, [.int wM_which, .int wM_x, .int wM_y, .int wM_row, .int wM_table]))] (PoV [(h_w, .inr (4, [.ref h_w_stock, .ref h_w_weight, .ref h_w_known, .ref h_w_found, nv w_measure h_wM, .int w_values, .int w_row, .int w_rowCodes, .int w_table, .int w_length, .int w_full, .int w_pairs, .int w_codes])), (h_w_stock, .inl (cI, 16, .inl w_stock)), (h_w_weight, .inl (cI, 16, .inl w_weight)), (h_w_known, .inl (cI, 577, .inl res.1)), (h_w_found, .inl (cI, 6347, .inl res.2)), (h_wM, .inr (0, [.int wM_which, .int wM_x, .int wM_y, .int wM_row, .int wM_table]))])) (w_measure : Bool) (w_values : Int32) (w_row : Int32) (w_rowCodes : Int32) (w_table : Int32) (w_length : Int32) (w_full : Int32) (w_pairs : Int32) (w_codes : Int32) (w_stock : Nat → Int32) (w_weight : Nat → Int32) (w_known : Nat → Int32) (w_found : Nat → Int32) (wM_which : Int32) (wM_x : Int32) (wM_y : Int32) (wM_row : Int32) (wM_table : Int32) (a1 : Int32) (a2 : Int32) (a3 : Int32) {res : (Nat → Int32) × (Nat → Int32)} (h : f_X4_solve_B F rec w_measure w_values w_row w_rowCodes w_table w_length w_pairs w_codes w_stock w_weight w_known w_found wM_which wM_x wM_y wM_row wM_table a1 a2 a3 = some res) : CtV l D cI cS X yX4_solve cX4_solve 7 (n0 + 1) [.ref h_w, .int a1, .int a2, .int a3] [(h_w, .inr (4, [.ref h_w_stock, .ref h_w_weight, .ref h_w_known, .ref h_w_found, nv w_measure h_wM, .int w_values, .int w_row, .int w_rowCodes, .int w_table, .int w_length, .int w_full, .int w_pairs, .int w_codes])), (h_w_stock, .inl (cI, 16, .inl w_stock)), (h_w_weight, .inl (cI, 16, .inl w_weight)), (h_w_known, .inl (cI, 577, .inl w_known)), (h_w_found, .inl (cI, 6347, .inl w_found)), (h_wM, .inr (0, [.int wM_which, .int wM_x, .int wM_y, .int wM_row, .int wM_table]))] (PoV [(h_w, .inr (4, [.ref h_w_stock, .ref h_w_weight, .ref h_w_known, .ref h_w_found, nv w_measure h_wM, .int w_values, .int w_row, .int w_rowCodes, .int w_table, .int w_length, .int w_full, .int w_pairs, .int w_codes])), (h_w_stock, .inl (cI, 16, .inl w_stock)), (h_w_weight, .inl (cI, 16, .inl w_weight)), (h_w_known, .inl (cI, 577, .inl res.1)), (h_w_found, .inl (cI, 6347, .inl res.2)), (h_wM, .inr (0, [.int wM_which, .int wM_x, .int wM_y, .int wM_row, .int wM_table]))]) := by
  refine CtV.of (by decide +kernel) rfl ?_
  intro p e s m below meth c A hc
  refine G_lv (lv' := [(0, .ref h_w), (1, .int a1), (2, .int a2), (3, .int a3)]) (lsame_cons rfl (lsame_cons rfl (lsame_cons rfl (lsame_cons rfl lsame_nil)))) ?_
  unfold f_X4_solve_B at h
  refine G_aload_n hc dX4_solve_0 rfl ?_
  refine G_iload_n hc dX4_solve_1 rfl ?_
  refine G_iload_n hc dX4_solve_2 rfl ?_
  refine G_iload_n hc dX4_solve_3 rfl ?_
  obtain ⟨z1, hu2, h⟩ := ob h
  refine G_callVI (ws2 := [(h_w, .inr (4, [.ref h_w_stock, .ref h_w_weight, .ref h_w_known, .ref h_w_found, nv w_measure h_wM, .int w_values, .int w_row, .int w_rowCodes, .int w_table, .int w_length, .int w_full, .int w_pairs, .int w_codes])), (h_w_stock, .inl (cI, 16, .inl w_stock)), (h_w_weight, .inl (cI, 16, .inl w_weight)), (h_w_known, .inl (cI, 577, .inl w_known)), (h_w_found, .inl (cI, 6347, .inl w_found)), (h_wM, .inr (0, [.int wM_which, .int wM_x, .int wM_y, .int wM_row, .int wM_table]))]) hc m_X4_105 (c_X4_entryOf l D cI cS X F h_w h_w_stock h_w_weight h_w_known h_w_found h_wM w_measure w_values w_row w_rowCodes w_table w_length w_full w_pairs w_codes w_stock w_weight w_known w_found wM_which wM_x wM_y wM_row wM_table a1 a2 a3 hu2) 0 [0, 1, 2, 3, 4, 5] rfl rfl (rmok_of (by omega)) ⟨Nat.zero_le _, Nat.zero_le _⟩ rfl rfl rfl rfl rfl ⟨rfl, rfl, rfl⟩ dX4_solve_4 ?_
  refine G_istore (lv' := [(0, .ref h_w), (1, .int a1), (2, .int a2), (3, .int a3), (4, .int z1)]) hc dX4_solve_7 rfl rfl ?_
  refine G_iload_n hc dX4_solve_9 rfl ?_
  refine G_aload_n hc dX4_solve_10 rfl ?_
  refine G_get hc f_X4_68 0 rfl rfl dX4_solve_11 ?_
  refine G_icmp_gt (tgt := 26) hc dX4_solve_14 (by decide) (fun c36 => ?_) (fun c36 => ?_)
  · have h := ip h c36
    have h := Option.some.inj h
    subst h
    exact G_return hc rfl dX4_solve_26
  · have h := inn h c36
    refine G_aload_n hc dX4_solve_17 rfl ?_
    refine G_iload hc dX4_solve_18 rfl ?_
    obtain ⟨z3, hu4, h⟩ := ob h
    refine G_callVI (ws2 := [(h_w, .inr (4, [.ref h_w_stock, .ref h_w_weight, .ref h_w_known, .ref h_w_found, nv w_measure h_wM, .int w_values, .int w_row, .int w_rowCodes, .int w_table, .int w_length, .int w_full, .int w_pairs, .int w_codes])), (h_w_stock, .inl (cI, 16, .inl w_stock)), (h_w_weight, .inl (cI, 16, .inl w_weight)), (h_w_known, .inl (cI, 577, .inl w_known)), (h_w_found, .inl (cI, 6347, .inl w_found)), (h_wM, .inr (0, [.int wM_which, .int wM_x, .int wM_y, .int wM_row, .int wM_table]))]) hc m_X4_108 (c_X4_isKnown l D cI cS X F h_w h_w_stock h_w_weight h_w_known h_w_found h_wM w_measure w_values w_row w_rowCodes w_table w_length w_full w_pairs w_codes w_stock w_weight w_known w_found wM_which wM_x wM_y wM_row wM_table z1 hu4) 0 [0, 1, 2, 3, 4, 5] rfl rfl (rmok_of (by omega)) ⟨Nat.zero_le _, Nat.zero_le _⟩ rfl rfl rfl rfl rfl ⟨rfl, rfl, rfl⟩ dX4_solve_20 ?_
    refine G_if_eq (tgt := 27) hc dX4_solve_23 (by decide) (fun c35 => ?_) (fun c35 => ?_)
    · have h := ip h c35
      refine G_aload_n hc dX4_solve_27 rfl ?_
      refine G_iload hc dX4_solve_28 rfl ?_
      obtain ⟨z5, hu6, h⟩ := ob h
      refine G_callVV (ws2 := [(h_w, .inr (4, [.ref h_w_stock, .ref h_w_weight, .ref h_w_known, .ref h_w_found, nv w_measure h_wM, .int w_values, .int w_row, .int w_rowCodes, .int w_table, .int w_length, .int w_full, .int w_pairs, .int w_codes])), (h_w_stock, .inl (cI, 16, .inl w_stock)), (h_w_weight, .inl (cI, 16, .inl w_weight)), (h_w_known, .inl (cI, 577, .inl z5.1)), (h_w_found, .inl (cI, 6347, .inl z5.2)), (h_wM, .inr (0, [.int wM_which, .int wM_x, .int wM_y, .int wM_row, .int wM_table]))]) hc m_X4_111 (c_X4_begin l D cI cS X F h_w h_w_stock h_w_weight h_w_known h_w_found h_wM w_measure w_values w_row w_rowCodes w_table w_length w_full w_pairs w_codes w_stock w_weight w_known w_found wM_which wM_x wM_y wM_row wM_table z1 hu6) 0 [0, 1, 2, 3, 4, 5] rfl rfl (rmok_of (by omega)) ⟨Nat.zero_le _, Nat.zero_le _⟩ rfl rfl rfl rfl rfl ⟨rfl, rfl, rfl⟩ dX4_solve_30 ?_
      refine G_iload_n hc dX4_solve_33 rfl ?_
      refine G_aload_n hc dX4_solve_34 rfl ?_
      refine G_get hc f_X4_68 0 rfl rfl dX4_solve_35 ?_
      refine G_icmp_ne (tgt := 50) hc dX4_solve_38 (by decide) (fun c34 => ?_) (fun c34 => ?_)
      · have h := inn h c34
        refine G_iconst (v := 0) hc dX4_solve_50 (by decide) ?_
        refine G_istore (lv' := [(0, .ref h_w), (1, .int a1), (2, .int a2), (3, .int a3), (4, .int z1), (5, .int (0 : Int32))]) hc dX4_solve_51 rfl rfl ?_
        obtain ⟨e10, hl11, h⟩ := ob h
        have hK15 : G p l e (rmk (n0 + 1)) s m [.ref h_w, .int a1, .int a2, .int a3].toArray below meth c D A 7 0 0 (QV below [.ref h_w, .int a1, .int a2, .int a3].toArray s D A (PoV [(h_w, .inr (4, [.ref h_w_stock, .ref h_w_weight, .ref h_w_known, .ref h_w_found, nv w_measure h_wM, .int w_values, .int w_row, .int w_rowCodes, .int w_table, .int w_length, .int w_full, .int w_pairs, .int w_codes])), (h_w_stock, .inl (cI, 16, .inl w_stock)), (h_w_weight, .inl (cI, 16, .inl w_weight)), (h_w_known, .inl (cI, 577, .inl res.1)), (h_w_found, .inl (cI, 6347, .inl res.2)), (h_wM, .inr (0, [.int wM_which, .int wM_x, .int wM_y, .int wM_row, .int wM_table]))])) [(h_w, .inr (4, [.ref h_w_stock, .ref h_w_weight, .ref h_w_known, .ref h_w_found, nv w_measure h_wM, .int w_values, .int w_row, .int w_rowCodes, .int w_table, .int w_length, .int w_full, .int w_pairs, .int w_codes])), (h_w_stock, .inl (cI, 16, .inl w_stock)), (h_w_weight, .inl (cI, 16, .inl w_weight)), (h_w_known, .inl (cI, 577, .inl e10.2)), (h_w_found, .inl (cI, 6347, .inl e10.1)), (h_wM, .inr (0, [.int wM_which, .int wM_x, .int wM_y, .int wM_row, .int wM_table]))] [] 118 [] := by
          have h := Option.some.inj h
          subst h
          exact G_return hc rfl dX4_solve_118
        clear h
        have hL12 : ∀ (n13 : Nat) (u7 : Int32) (u8 : Nat → Int32) (u9 : Nat → Int32), f_X4_solve_L53 F rec w_measure w_values w_row w_rowCodes w_table w_length w_pairs w_codes w_stock w_weight wM_which wM_x wM_y wM_row wM_table a1 a2 a3 z1 n13 u7 u8 u9 = some e10 → G p l e (rmk (n0 + 1)) s m [.ref h_w, .int a1, .int a2, .int a3].toArray below meth c D A 7 0 0 (QV below [.ref h_w, .int a1, .int a2, .int a3].toArray s D A (PoV [(h_w, .inr (4, [.ref h_w_stock, .ref h_w_weight, .ref h_w_known, .ref h_w_found, nv w_measure h_wM, .int w_values, .int w_row, .int w_rowCodes, .int w_table, .int w_length, .int w_full, .int w_pairs, .int w_codes])), (h_w_stock, .inl (cI, 16, .inl w_stock)), (h_w_weight, .inl (cI, 16, .inl w_weight)), (h_w_known, .inl (cI, 577, .inl res.1)), (h_w_found, .inl (cI, 6347, .inl res.2)), (h_wM, .inr (0, [.int wM_which, .int wM_x, .int wM_y, .int wM_row, .int wM_table]))])) [(h_w, .inr (4, [.ref h_w_stock, .ref h_w_weight, .ref h_w_known, .ref h_w_found, nv w_measure h_wM, .int w_values, .int w_row, .int w_rowCodes, .int w_table, .int w_length, .int w_full, .int w_pairs, .int w_codes])), (h_w_stock, .inl (cI, 16, .inl w_stock)), (h_w_weight, .inl (cI, 16, .inl w_weight)), (h_w_known, .inl (cI, 577, .inl u9)), (h_w_found, .inl (cI, 6347, .inl u8)), (h_wM, .inr (0, [.int wM_which, .int wM_x, .int wM_y, .int wM_row, .int wM_table]))] [(0, .ref h_w), (1, .int a1), (2, .int a2), (3, .int a3), (4, .int z1), (5, .int u7)] 53 [] := by
          intro n13
          induction n13 with
          | zero =>
            intro u7 u8 u9 h
            exact nz h
          | succ n13 ih14 =>
            intro u7 u8 u9 h
            rw [f_X4_solve_L53] at h
            refine G_iload hc dX4_solve_53 rfl ?_
            refine G_iconst (v := 4) hc dX4_solve_55 (by decide) ?_
            refine G_icmp_ge (tgt := 118) hc dX4_solve_56 (by decide) (fun c31 => ?_) (fun c31 => ?_)
            · have h := ip h c31
              have h := Option.some.inj h
              subst h
              refine G_lv (lv' := []) lsame_nil ?_
              exact hK15
            · have h := inn h c31
              refine G_aload_n hc dX4_solve_59 rfl ?_
              refine G_iload_n hc dX4_solve_60 rfl ?_
              refine G_iload_n hc dX4_solve_61 rfl ?_
              refine G_iload_n hc dX4_solve_62 rfl ?_
              refine G_iload hc dX4_solve_63 rfl ?_
              obtain ⟨z16, hu17, h⟩ := ob h
              refine G_callVI (ws2 := [(h_w, .inr (4, [.ref h_w_stock, .ref h_w_weight, .ref h_w_known, .ref h_w_found, nv w_measure h_wM, .int w_values, .int w_row, .int w_rowCodes, .int w_table, .int w_length, .int w_full, .int w_pairs, .int w_codes])), (h_w_stock, .inl (cI, 16, .inl w_stock)), (h_w_weight, .inl (cI, 16, .inl w_weight)), (h_w_known, .inl (cI, 577, .inl u9)), (h_w_found, .inl (cI, 6347, .inl u8)), (h_wM, .inr (0, [.int wM_which, .int wM_x, .int wM_y, .int wM_row, .int wM_table]))]) hc m_X4_119 (c_X4_leftAfter l D cI cS X F h_w h_w_stock h_w_weight h_w_known h_w_found h_wM w_measure w_values w_row w_rowCodes w_table w_length w_full w_pairs w_codes w_stock w_weight u9 u8 wM_which wM_x wM_y wM_row wM_table a1 a2 a3 u7 hu17) 0 [0, 1, 2, 3, 4, 5] rfl rfl (rmok_of (by omega)) ⟨Nat.zero_le _, Nat.zero_le _⟩ rfl rfl rfl rfl rfl ⟨rfl, rfl, rfl⟩ dX4_solve_65 ?_
              refine G_istore (lv' := [(0, .ref h_w), (1, .int a1), (2, .int a2), (3, .int a3), (4, .int z1), (5, .int u7), (6, .int z16)]) hc dX4_solve_68 rfl rfl ?_
              refine G_iload hc dX4_solve_70 rfl ?_
              refine G_iconst (v := -1) hc dX4_solve_72 (by decide) ?_
              obtain ⟨t18, hr20, h⟩ := ob h
              have hj19 : G p l e (rmk (n0 + 1)) s m [.ref h_w, .int a1, .int a2, .int a3].toArray below meth c D A 7 0 0 (QV below [.ref h_w, .int a1, .int a2, .int a3].toArray s D A (PoV [(h_w, .inr (4, [.ref h_w_stock, .ref h_w_weight, .ref h_w_known, .ref h_w_found, nv w_measure h_wM, .int w_values, .int w_row, .int w_rowCodes, .int w_table, .int w_length, .int w_full, .int w_pairs, .int w_codes])), (h_w_stock, .inl (cI, 16, .inl w_stock)), (h_w_weight, .inl (cI, 16, .inl w_weight)), (h_w_known, .inl (cI, 577, .inl res.1)), (h_w_found, .inl (cI, 6347, .inl res.2)), (h_wM, .inr (0, [.int wM_which, .int wM_x, .int wM_y, .int wM_row, .int wM_table]))])) [(h_w, .inr (4, [.ref h_w_stock, .ref h_w_weight, .ref h_w_known, .ref h_w_found, nv w_measure h_wM, .int w_values, .int w_row, .int w_rowCodes, .int w_table, .int w_length, .int w_full, .int w_pairs, .int w_codes])), (h_w_stock, .inl (cI, 16, .inl w_stock)), (h_w_weight, .inl (cI, 16, .inl w_weight)), (h_w_known, .inl (cI, 577, .inl t18.1)), (h_w_found, .inl (cI, 6347, .inl t18.2)), (h_wM, .inr (0, [.int wM_which, .int wM_x, .int wM_y, .int wM_row, .int wM_table]))] [(0, .ref h_w), (1, .int a1), (2, .int a2), (3, .int a3), (4, .int z1), (5, .int u7)] 112 [] := by
                obtain ⟨v30, e_v30, h⟩ := sb h
                refine G_iinc (v := v30) (lv' := [(0, .ref h_w), (1, .int a1), (2, .int a2), (3, .int a3), (4, .int z1), (5, .int v30)]) hc dX4_solve_112 rfl (e_v30.trans rfl) rfl rfl ?_
                refine G_goto (tgt := 53) hc dX4_solve_115 (by decide) ?_
                refine G_lv (lv' := [(0, .ref h_w), (1, .int a1), (2, .int a2), (3, .int a3), (4, .int z1), (5, .int v30)]) (lsame_cons rfl (lsame_cons rfl (lsame_cons rfl (lsame_cons rfl (lsame_cons rfl (lsame_cons rfl lsame_nil)))))) ?_
                exact ih14 _ _ _ h
              clear h
              have h := hr20
              clear hr20
              refine G_icmp_eq (tgt := 112) hc dX4_solve_73 (by decide) (fun c29 => ?_) (fun c29 => ?_)
              · have h := ip h c29
                have h := Option.some.inj h
                subst h
                refine G_lv (lv' := [(0, .ref h_w), (1, .int a1), (2, .int a2), (3, .int a3), (4, .int z1), (5, .int u7)]) (lsame_cons rfl (lsame_cons rfl (lsame_cons rfl (lsame_cons rfl (lsame_cons rfl (lsame_cons rfl lsame_nil)))))) ?_
                exact hj19
              · have h := inn h c29
                refine G_aload_n hc dX4_solve_76 rfl ?_
                refine G_iload hc dX4_solve_77 rfl ?_
                refine G_iload hc dX4_solve_79 rfl ?_
                refine G_iload_n hc dX4_solve_81 rfl ?_
                refine G_iconst (v := 1) hc dX4_solve_82 (by decide) ?_
                refine G_iadd hc dX4_solve_83 ?_
                obtain ⟨z21, hu22, h⟩ := ob h
                refine G_callSV (ws2 := [(h_w, .inr (4, [.ref h_w_stock, .ref h_w_weight, .ref h_w_known, .ref h_w_found, nv w_measure h_wM, .int w_values, .int w_row, .int w_rowCodes, .int w_table, .int w_length, .int w_full, .int w_pairs, .int w_codes])), (h_w_stock, .inl (cI, 16, .inl w_stock)), (h_w_weight, .inl (cI, 16, .inl w_weight)), (h_w_known, .inl (cI, 577, .inl z21.1)), (h_w_found, .inl (cI, 6347, .inl z21.2)), (h_wM, .inr (0, [.int wM_which, .int wM_x, .int wM_y, .int wM_row, .int wM_table]))]) hc m_X4_50 (hrec w_measure w_values w_row w_rowCodes w_table w_length w_full w_pairs w_codes w_stock w_weight u9 u8 wM_which wM_x wM_y wM_row wM_table z16 u7 (a3 + (1 : Int32)) _ hu22) [0, 1, 2, 3, 4, 5] (rmok_of (by omega)) ⟨Nat.zero_le _, Nat.zero_le _⟩ rfl rfl rfl rfl rfl ⟨rfl, rfl, rfl⟩ dX4_solve_84 ?_
                refine G_aload_n hc dX4_solve_87 rfl ?_
                refine G_iload hc dX4_solve_88 rfl ?_
                refine G_aload_n hc dX4_solve_90 rfl ?_
                refine G_iload hc dX4_solve_91 rfl ?_
                refine G_iload hc dX4_solve_93 rfl ?_
                refine G_iload_n hc dX4_solve_95 rfl ?_
                refine G_iconst (v := 1) hc dX4_solve_96 (by decide) ?_
                refine G_iadd hc dX4_solve_97 ?_
                obtain ⟨z23, hu24, h⟩ := ob h
                refine G_callVI (ws2 := [(h_w, .inr (4, [.ref h_w_stock, .ref h_w_weight, .ref h_w_known, .ref h_w_found, nv w_measure h_wM, .int w_values, .int w_row, .int w_rowCodes, .int w_table, .int w_length, .int w_full, .int w_pairs, .int w_codes])), (h_w_stock, .inl (cI, 16, .inl w_stock)), (h_w_weight, .inl (cI, 16, .inl w_weight)), (h_w_known, .inl (cI, 577, .inl z21.1)), (h_w_found, .inl (cI, 6347, .inl z21.2)), (h_wM, .inr (0, [.int wM_which, .int wM_x, .int wM_y, .int wM_row, .int wM_table]))]) hc m_X4_105 (c_X4_entryOf l D cI cS X F h_w h_w_stock h_w_weight h_w_known h_w_found h_wM w_measure w_values w_row w_rowCodes w_table w_length w_full w_pairs w_codes w_stock w_weight z21.1 z21.2 wM_which wM_x wM_y wM_row wM_table z16 u7 (a3 + (1 : Int32)) hu24) 0 [0, 1, 2, 3, 4, 5] rfl rfl (rmok_of (by omega)) ⟨Nat.zero_le _, Nat.zero_le _⟩ rfl rfl rfl rfl rfl ⟨rfl, rfl, rfl⟩ dX4_solve_98 ?_
                refine G_aload_n hc dX4_solve_101 rfl ?_
                refine G_iload_n hc dX4_solve_102 rfl ?_
                refine G_iload_n hc dX4_solve_103 rfl ?_
                refine G_iload hc dX4_solve_104 rfl ?_
                obtain ⟨z25, hu26, h⟩ := ob h
                refine G_callVI (ws2 := [(h_w, .inr (4, [.ref h_w_stock, .ref h_w_weight, .ref h_w_known, .ref h_w_found, nv w_measure h_wM, .int w_values, .int w_row, .int w_rowCodes, .int w_table, .int w_length, .int w_full, .int w_pairs, .int w_codes])), (h_w_stock, .inl (cI, 16, .inl w_stock)), (h_w_weight, .inl (cI, 16, .inl w_weight)), (h_w_known, .inl (cI, 577, .inl z21.1)), (h_w_found, .inl (cI, 6347, .inl z21.2)), (h_wM, .inr (0, [.int wM_which, .int wM_x, .int wM_y, .int wM_row, .int wM_table]))]) hc m_X4_123 (c_X4_gain l D cI cS X F h_w h_w_stock h_w_weight h_w_known h_w_found h_wM w_measure w_values w_row w_rowCodes w_table w_length w_full w_pairs w_codes w_stock w_weight z21.1 z21.2 wM_which wM_x wM_y wM_row wM_table a3 a2 u7 hu26) 0 [0, 1, 2, 3, 4, 5] rfl rfl (rmok_of (by omega)) ⟨Nat.zero_le _, Nat.zero_le _⟩ rfl rfl rfl rfl rfl ⟨rfl, rfl, rfl⟩ dX4_solve_106 ?_
                obtain ⟨z27, hu28, h⟩ := ob h
                refine G_callVV (ws2 := [(h_w, .inr (4, [.ref h_w_stock, .ref h_w_weight, .ref h_w_known, .ref h_w_found, nv w_measure h_wM, .int w_values, .int w_row, .int w_rowCodes, .int w_table, .int w_length, .int w_full, .int w_pairs, .int w_codes])), (h_w_stock, .inl (cI, 16, .inl w_stock)), (h_w_weight, .inl (cI, 16, .inl w_weight)), (h_w_known, .inl (cI, 577, .inl z21.1)), (h_w_found, .inl (cI, 6347, .inl z27)), (h_wM, .inr (0, [.int wM_which, .int wM_x, .int wM_y, .int wM_row, .int wM_table]))]) hc m_X4_126 (c_X4_join l D cI cS X F h_w h_w_stock h_w_weight h_w_known h_w_found h_wM w_measure w_values w_row w_rowCodes w_table w_length w_full w_pairs w_codes w_stock w_weight z21.1 z21.2 wM_which wM_x wM_y wM_row wM_table z1 z23 z25 hu28) 0 [0, 1, 2, 3, 4, 5] rfl rfl (rmok_of (by omega)) ⟨Nat.zero_le _, Nat.zero_le _⟩ rfl rfl rfl rfl rfl ⟨rfl, rfl, rfl⟩ dX4_solve_109 ?_
                have h := Option.some.inj h
                subst h
                refine G_lv (lv' := [(0, .ref h_w), (1, .int a1), (2, .int a2), (3, .int a3), (4, .int z1), (5, .int u7)]) (lsame_cons rfl (lsame_cons rfl (lsame_cons rfl (lsame_cons rfl (lsame_cons rfl (lsame_cons rfl lsame_nil)))))) ?_
                exact hj19
        refine G_lv (lv' := [(0, .ref h_w), (1, .int a1), (2, .int a2), (3, .int a3), (4, .int z1), (5, .int (0 : Int32))]) (lsame_cons rfl (lsame_cons rfl (lsame_cons rfl (lsame_cons rfl (lsame_cons rfl (lsame_cons rfl lsame_nil)))))) ?_
        exact hL12 F _ _ _ hl11
      · have h := ip h c34
        refine G_aload_n hc dX4_solve_41 rfl ?_
        refine G_iload hc dX4_solve_42 rfl ?_
        refine G_iconst (v := 0) hc dX4_solve_44 (by decide) ?_
        refine G_iconst (v := 1) hc dX4_solve_45 (by decide) ?_
        obtain ⟨z32, hu33, h⟩ := ob h
        refine G_callVV (ws2 := [(h_w, .inr (4, [.ref h_w_stock, .ref h_w_weight, .ref h_w_known, .ref h_w_found, nv w_measure h_wM, .int w_values, .int w_row, .int w_rowCodes, .int w_table, .int w_length, .int w_full, .int w_pairs, .int w_codes])), (h_w_stock, .inl (cI, 16, .inl w_stock)), (h_w_weight, .inl (cI, 16, .inl w_weight)), (h_w_known, .inl (cI, 577, .inl z5.1)), (h_w_found, .inl (cI, 6347, .inl z32)), (h_wM, .inr (0, [.int wM_which, .int wM_x, .int wM_y, .int wM_row, .int wM_table]))]) hc m_X4_115 (c_X4_add l D cI cS X F h_w h_w_stock h_w_weight h_w_known h_w_found h_wM w_measure w_values w_row w_rowCodes w_table w_length w_full w_pairs w_codes w_stock w_weight z5.1 z5.2 wM_which wM_x wM_y wM_row wM_table z1 (0 : Int32) (1 : Int32) hu33) 0 [0, 1, 2, 3, 4, 5] rfl rfl (rmok_of (by omega)) ⟨Nat.zero_le _, Nat.zero_le _⟩ rfl rfl rfl rfl rfl ⟨rfl, rfl, rfl⟩ dX4_solve_46 ?_
        have h := Option.some.inj h
        subst h
        exact G_return hc rfl dX4_solve_49
    · have h := inn h c35
      have h := Option.some.inj h
      subst h
      exact G_return hc rfl dX4_solve_26
theorem c_X4_solve_n (l : Launch) (D : va_G) (cI cS : ClassId) (X : XP) (F : Nat) (h_w h_w_stock h_w_weight h_w_known h_w_found h_wM : Nat) : ∀ (n : Nat) (w_measure : Bool) (w_values : Int32) (w_row : Int32) (w_rowCodes : Int32) (w_table : Int32) (w_length : Int32) (w_full : Int32) (w_pairs : Int32) (w_codes : Int32) (w_stock : Nat → Int32) (w_weight : Nat → Int32) (w_known : Nat → Int32) (w_found : Nat → Int32) (wM_which : Int32) (wM_x : Int32) (wM_y : Int32) (wM_row : Int32) (wM_table : Int32) (a1 : Int32) (a2 : Int32) (a3 : Int32) (res : (Nat → Int32) × (Nat → Int32)), f_X4_solve F n w_measure w_values w_row w_rowCodes w_table w_length w_pairs w_codes w_stock w_weight w_known w_found wM_which wM_x wM_y wM_row wM_table a1 a2 a3 = some res → CtV l D cI cS X yX4_solve cX4_solve 7 (4 + n) [.ref h_w, .int a1, .int a2, .int a3] [(h_w, .inr (4, [.ref h_w_stock, .ref h_w_weight, .ref h_w_known, .ref h_w_found, nv w_measure h_wM, .int w_values, .int w_row, .int w_rowCodes, .int w_table, .int w_length, .int w_full, .int w_pairs, .int w_codes])), (h_w_stock, .inl (cI, 16, .inl w_stock)), (h_w_weight, .inl (cI, 16, .inl w_weight)), (h_w_known, .inl (cI, 577, .inl w_known)), (h_w_found, .inl (cI, 6347, .inl w_found)), (h_wM, .inr (0, [.int wM_which, .int wM_x, .int wM_y, .int wM_row, .int wM_table]))] (PoV [(h_w, .inr (4, [.ref h_w_stock, .ref h_w_weight, .ref h_w_known, .ref h_w_found, nv w_measure h_wM, .int w_values, .int w_row, .int w_rowCodes, .int w_table, .int w_length, .int w_full, .int w_pairs, .int w_codes])), (h_w_stock, .inl (cI, 16, .inl w_stock)), (h_w_weight, .inl (cI, 16, .inl w_weight)), (h_w_known, .inl (cI, 577, .inl res.1)), (h_w_found, .inl (cI, 6347, .inl res.2)), (h_wM, .inr (0, [.int wM_which, .int wM_x, .int wM_y, .int wM_row, .int wM_table]))]) := by
  intro n
  induction n with
  | zero =>
    intro w_measure w_values w_row w_rowCodes w_table w_length w_full w_pairs w_codes w_stock w_weight w_known w_found wM_which wM_x wM_y wM_row wM_table a1 a2 a3 res h
    exact nz h
  | succ n ih =>
    intro w_measure w_values w_row w_rowCodes w_table w_length w_full w_pairs w_codes w_stock w_weight w_known w_found wM_which wM_x wM_y wM_row wM_table a1 a2 a3 res h
    rw [f_X4_solve] at h
    exact c_X4_solve_B l D cI cS X F (4 + n) (by omega) h_w h_w_stock h_w_weight h_w_known h_w_found h_wM _ ih w_measure w_values w_row w_rowCodes w_table w_length w_full w_pairs w_codes w_stock w_weight w_known w_found wM_which wM_x wM_y wM_row wM_table a1 a2 a3 h
theorem c_X4_solve (l : Launch) (D : va_G) (cI cS : ClassId) (X : XP) (F : Nat) (n : Nat) (h_w h_w_stock h_w_weight h_w_known h_w_found h_wM : Nat) (w_measure : Bool) (w_values : Int32) (w_row : Int32) (w_rowCodes : Int32) (w_table : Int32) (w_length : Int32) (w_full : Int32) (w_pairs : Int32) (w_codes : Int32) (w_stock : Nat → Int32) (w_weight : Nat → Int32) (w_known : Nat → Int32) (w_found : Nat → Int32) (wM_which : Int32) (wM_x : Int32) (wM_y : Int32) (wM_row : Int32) (wM_table : Int32) (a1 : Int32) (a2 : Int32) (a3 : Int32) {res : (Nat → Int32) × (Nat → Int32)} (h : f_X4_solve F n w_measure w_values w_row w_rowCodes w_table w_length w_pairs w_codes w_stock w_weight w_known w_found wM_which wM_x wM_y wM_row wM_table a1 a2 a3 = some res) : CtV l D cI cS X yX4_solve cX4_solve 7 (4 + n) [.ref h_w, .int a1, .int a2, .int a3] [(h_w, .inr (4, [.ref h_w_stock, .ref h_w_weight, .ref h_w_known, .ref h_w_found, nv w_measure h_wM, .int w_values, .int w_row, .int w_rowCodes, .int w_table, .int w_length, .int w_full, .int w_pairs, .int w_codes])), (h_w_stock, .inl (cI, 16, .inl w_stock)), (h_w_weight, .inl (cI, 16, .inl w_weight)), (h_w_known, .inl (cI, 577, .inl w_known)), (h_w_found, .inl (cI, 6347, .inl w_found)), (h_wM, .inr (0, [.int wM_which, .int wM_x, .int wM_y, .int wM_row, .int wM_table]))] (PoV [(h_w, .inr (4, [.ref h_w_stock, .ref h_w_weight, .ref h_w_known, .ref h_w_found, nv w_measure h_wM, .int w_values, .int w_row, .int w_rowCodes, .int w_table, .int w_length, .int w_full, .int w_pairs, .int w_codes])), (h_w_stock, .inl (cI, 16, .inl w_stock)), (h_w_weight, .inl (cI, 16, .inl w_weight)), (h_w_known, .inl (cI, 577, .inl res.1)), (h_w_found, .inl (cI, 6347, .inl res.2)), (h_wM, .inr (0, [.int wM_which, .int wM_x, .int wM_y, .int wM_row, .int wM_table]))]) := c_X4_solve_n l D cI cS X F h_w h_w_stock h_w_weight h_w_known h_w_found h_wM n w_measure w_values w_row w_rowCodes w_table w_length w_full w_pairs w_codes w_stock w_weight w_known w_found wM_which wM_x wM_y wM_row wM_table a1 a2 a3 res h
set_option maxHeartbeats 4000000 in
set_option maxRecDepth 100000 in
theorem c_X4_open (l : Launch) (D : va_G) (cI cS : ClassId) (X : XP) (F : Nat) (h_w h_w_stock h_w_weight h_w_known h_w_found h_wM h_o h_o_book : Nat) (w_measure : Bool) (w_values : Int32) (w_row : Int32) (w_rowCodes : Int32) (w_table : Int32) (w_length : Int32) (w_full : Int32) (w_pairs : Int32) (w_codes : Int32) (w_stock : Nat → Int32) (w_weight : Nat → Int32) (w_known : Nat → Int32) (w_found : Nat → Int32) (wM_which : Int32) (wM_x : Int32) (wM_y : Int32) (wM_row : Int32) (wM_table : Int32) (o_row : Int32) (o_table : Int32) (o_kept : Int32) (o_book : Nat → Int32) (a2 : Int32) {res : Bool × Int32 × Int32 × Int32 × Int32 × Int32 × Int32 × Int32 × Int32 × (Nat → Int32) × (Nat → Int32) × (Nat → Int32) × (Nat → Int32)} (h : f_X4_open F w_stock w_weight w_known w_found wM_which wM_x wM_y wM_row wM_table o_row o_table a2 = some res) : CtV l D cI cS X yX4_open cX4_open 3 17 [.ref h_w, .ref h_o, .int a2] [(h_w, .inr (4, [.ref h_w_stock, .ref h_w_weight, .ref h_w_known, .ref h_w_found, nv w_measure h_wM, .int w_values, .int w_row, .int w_rowCodes, .int w_table, .int w_length, .int w_full, .int w_pairs, .int w_codes])), (h_w_stock, .inl (cI, 16, .inl w_stock)), (h_w_weight, .inl (cI, 16, .inl w_weight)), (h_w_known, .inl (cI, 577, .inl w_known)), (h_w_found, .inl (cI, 6347, .inl w_found)), (h_wM, .inr (0, [.int wM_which, .int wM_x, .int wM_y, .int wM_row, .int wM_table])), (h_o, .inr (1, [.int o_row, .int o_table, .int o_kept, .ref h_o_book])), (h_o_book, .inl (cI, 8, .inl o_book))] (PoV [(h_w, .inr (4, [.ref h_w_stock, .ref h_w_weight, .ref h_w_known, .ref h_w_found, nv res.1 h_wM, .int res.2.1, .int res.2.2.1, .int res.2.2.2.1, .int res.2.2.2.2.1, .int res.2.2.2.2.2.1, .int res.2.2.2.2.2.2.1, .int res.2.2.2.2.2.2.2.1, .int res.2.2.2.2.2.2.2.2.1])), (h_w_stock, .inl (cI, 16, .inl res.2.2.2.2.2.2.2.2.2.1)), (h_w_weight, .inl (cI, 16, .inl res.2.2.2.2.2.2.2.2.2.2.1)), (h_w_known, .inl (cI, 577, .inl res.2.2.2.2.2.2.2.2.2.2.2.1)), (h_w_found, .inl (cI, 6347, .inl res.2.2.2.2.2.2.2.2.2.2.2.2)), (h_wM, .inr (0, [.int wM_which, .int wM_x, .int wM_y, .int wM_row, .int wM_table])), (h_o, .inr (1, [.int o_row, .int o_table, .int o_kept, .ref h_o_book])), (h_o_book, .inl (cI, 8, .inl o_book))]) := by
  refine CtV.of (by decide +kernel) rfl ?_
  intro p e s m below meth c A hc
  refine G_lv (lv' := [(0, .ref h_w), (1, .ref h_o), (2, .int a2)]) (lsame_cons rfl (lsame_cons rfl (lsame_cons rfl lsame_nil))) ?_
  unfold f_X4_open at h
  refine G_aload_n hc dX4_open_0 rfl ?_
  refine G_null hc dX4_open_1 ?_
  refine G_put (ws' := [(h_w, .inr (4, [.ref h_w_stock, .ref h_w_weight, .ref h_w_known, .ref h_w_found, nv true h_wM, .int w_values, .int w_row, .int w_rowCodes, .int w_table, .int w_length, .int w_full, .int w_pairs, .int w_codes])), (h_w_stock, .inl (cI, 16, .inl w_stock)), (h_w_weight, .inl (cI, 16, .inl w_weight)), (h_w_known, .inl (cI, 577, .inl w_known)), (h_w_found, .inl (cI, 6347, .inl w_found)), (h_wM, .inr (0, [.int wM_which, .int wM_x, .int wM_y, .int wM_row, .int wM_table])), (h_o, .inr (1, [.int o_row, .int o_table, .int o_kept, .ref h_o_book])), (h_o_book, .inl (cI, 8, .inl o_book))]) (v := .null) hc f_X4_24 p_X4_4 0 rfl rfl rfl rfl rfl dX4_open_2 ?_
  refine G_aload_n hc dX4_open_5 rfl ?_
  refine G_iload_n hc dX4_open_6 rfl ?_
  obtain ⟨z1, hu2, h⟩ := ob h
  refine G_callNI (ws2 := [(h_w, .inr (4, [.ref h_w_stock, .ref h_w_weight, .ref h_w_known, .ref h_w_found, nv true h_wM, .int w_values, .int w_row, .int w_rowCodes, .int w_table, .int w_length, .int w_full, .int w_pairs, .int w_codes])), (h_w_stock, .inl (cI, 16, .inl w_stock)), (h_w_weight, .inl (cI, 16, .inl w_weight)), (h_w_known, .inl (cI, 577, .inl w_known)), (h_w_found, .inl (cI, 6347, .inl w_found)), (h_wM, .inr (0, [.int wM_which, .int wM_x, .int wM_y, .int wM_row, .int wM_table])), (h_o, .inr (1, [.int o_row, .int o_table, .int o_kept, .ref h_o_book])), (h_o_book, .inl (cI, 8, .inl o_book))]) hc m_X4_28 (c_X5_keepsPairs l D cI cS X F a2 hu2) [] (rmok_of (Nat.le_of_ble_eq_true rfl)) ⟨Nat.zero_le _, Nat.zero_le _⟩ rfl rfl rfl rfl rfl ⟨rfl, rfl, rfl⟩ dX4_open_7 ?_
  obtain ⟨hz3, h⟩ := zb h
  refine G_putz (ws' := [(h_w, .inr (4, [.ref h_w_stock, .ref h_w_weight, .ref h_w_known, .ref h_w_found, nv true h_wM, .int w_values, .int w_row, .int w_rowCodes, .int w_table, .int w_length, .int w_full, .int z1, .int w_codes])), (h_w_stock, .inl (cI, 16, .inl w_stock)), (h_w_weight, .inl (cI, 16, .inl w_weight)), (h_w_known, .inl (cI, 577, .inl w_known)), (h_w_found, .inl (cI, 6347, .inl w_found)), (h_wM, .inr (0, [.int wM_which, .int wM_x, .int wM_y, .int wM_row, .int wM_table])), (h_o, .inr (1, [.int o_row, .int o_table, .int o_kept, .ref h_o_book])), (h_o_book, .inl (cI, 8, .inl o_book))]) hc f_X4_32 p_X4_11 0 hz3 rfl rfl rfl dX4_open_10 ?_
  refine G_aload_n hc dX4_open_13 rfl ?_
  refine G_iload_n hc dX4_open_14 rfl ?_
  obtain ⟨z4, hu5, h⟩ := ob h
  refine G_callNI (ws2 := [(h_w, .inr (4, [.ref h_w_stock, .ref h_w_weight, .ref h_w_known, .ref h_w_found, nv true h_wM, .int w_values, .int w_row, .int w_rowCodes, .int w_table, .int w_length, .int w_full, .int z1, .int w_codes])), (h_w_stock, .inl (cI, 16, .inl w_stock)), (h_w_weight, .inl (cI, 16, .inl w_weight)), (h_w_known, .inl (cI, 577, .inl w_known)), (h_w_found, .inl (cI, 6347, .inl w_found)), (h_wM, .inr (0, [.int wM_which, .int wM_x, .int wM_y, .int wM_row, .int wM_table])), (h_o, .inr (1, [.int o_row, .int o_table, .int o_kept, .ref h_o_book])), (h_o_book, .inl (cI, 8, .inl o_book))]) hc m_X4_36 (c_X5_keepsCodes l D cI cS X F a2 hu5) [] (rmok_of (Nat.le_of_ble_eq_true rfl)) ⟨Nat.zero_le _, Nat.zero_le _⟩ rfl rfl rfl rfl rfl ⟨rfl, rfl, rfl⟩ dX4_open_15 ?_
  obtain ⟨hz6, h⟩ := zb h
  refine G_putz (ws' := [(h_w, .inr (4, [.ref h_w_stock, .ref h_w_weight, .ref h_w_known, .ref h_w_found, nv true h_wM, .int w_values, .int w_row, .int w_rowCodes, .int w_table, .int w_length, .int w_full, .int z1, .int z4])), (h_w_stock, .inl (cI, 16, .inl w_stock)), (h_w_weight, .inl (cI, 16, .inl w_weight)), (h_w_known, .inl (cI, 577, .inl w_known)), (h_w_found, .inl (cI, 6347, .inl w_found)), (h_wM, .inr (0, [.int wM_which, .int wM_x, .int wM_y, .int wM_row, .int wM_table])), (h_o, .inr (1, [.int o_row, .int o_table, .int o_kept, .ref h_o_book])), (h_o_book, .inl (cI, 8, .inl o_book))]) hc f_X4_39 p_X4_12 0 hz6 rfl rfl rfl dX4_open_18 ?_
  refine G_aload_n hc dX4_open_21 rfl ?_
  refine G_aload_n hc dX4_open_22 rfl ?_
  obtain ⟨z7, hu8, h⟩ := ob h
  refine G_callVV (ws2 := [(h_w, .inr (4, [.ref h_w_stock, .ref h_w_weight, .ref h_w_known, .ref h_w_found, nv true h_wM, .int z7.1, .int z7.2.1, .int z7.2.2.1, .int z7.2.2.2.1, .int z7.2.2.2.2.1, .int z7.2.2.2.2.2.1, .int z1, .int z4])), (h_w_stock, .inl (cI, 16, .inl z7.2.2.2.2.2.2.1)), (h_w_weight, .inl (cI, 16, .inl z7.2.2.2.2.2.2.2.1)), (h_w_known, .inl (cI, 577, .inl z7.2.2.2.2.2.2.2.2)), (h_w_found, .inl (cI, 6347, .inl w_found)), (h_wM, .inr (0, [.int wM_which, .int wM_x, .int wM_y, .int wM_row, .int wM_table])), (h_o, .inr (1, [.int o_row, .int o_table, .int o_kept, .ref h_o_book])), (h_o_book, .inl (cI, 8, .inl o_book))]) hc m_X4_42 (c_X4_prepare l D cI cS X F h_w h_w_stock h_w_weight h_w_known h_w_found h_wM h_o h_o_book true w_values w_row w_rowCodes w_table w_length w_full z1 z4 w_stock w_weight w_known w_found wM_which wM_x wM_y wM_row wM_table o_row o_table o_kept o_book hu8) 0 [0, 1, 2, 3, 4, 5, 6, 7] rfl rfl (rmok_of (Nat.le_of_ble_eq_true rfl)) ⟨Nat.zero_le _, Nat.zero_le _⟩ rfl rfl rfl rfl rfl ⟨rfl, rfl, rfl⟩ dX4_open_23 ?_
  refine G_aload_n hc dX4_open_26 rfl ?_
  refine G_aload_n hc dX4_open_27 rfl ?_
  refine G_get hc f_X4_46 0 rfl rfl dX4_open_28 ?_
  refine G_iconst (v := 0) hc dX4_open_31 (by decide) ?_
  refine G_iconst (v := 0) hc dX4_open_32 (by decide) ?_
  obtain ⟨z9, hu10, h⟩ := ob h
  refine G_callSV (ws2 := [(h_w, .inr (4, [.ref h_w_stock, .ref h_w_weight, .ref h_w_known, .ref h_w_found, nv true h_wM, .int z7.1, .int z7.2.1, .int z7.2.2.1, .int z7.2.2.2.1, .int z7.2.2.2.2.1, .int z7.2.2.2.2.2.1, .int z1, .int z4])), (h_w_stock, .inl (cI, 16, .inl z7.2.2.2.2.2.2.1)), (h_w_weight, .inl (cI, 16, .inl z7.2.2.2.2.2.2.2.1)), (h_w_known, .inl (cI, 577, .inl z9.1)), (h_w_found, .inl (cI, 6347, .inl z9.2)), (h_wM, .inr (0, [.int wM_which, .int wM_x, .int wM_y, .int wM_row, .int wM_table])), (h_o, .inr (1, [.int o_row, .int o_table, .int o_kept, .ref h_o_book])), (h_o_book, .inl (cI, 8, .inl o_book))]) hc m_X4_50 (c_X4_solve l D cI cS X F 12 h_w h_w_stock h_w_weight h_w_known h_w_found h_wM true z7.1 z7.2.1 z7.2.2.1 z7.2.2.2.1 z7.2.2.2.2.1 z7.2.2.2.2.2.1 z1 z4 z7.2.2.2.2.2.2.1 z7.2.2.2.2.2.2.2.1 z7.2.2.2.2.2.2.2.2 w_found wM_which wM_x wM_y wM_row wM_table z7.2.2.2.2.2.1 (0 : Int32) (0 : Int32) hu10) [0, 1, 2, 3, 4, 5] (rmok_of (Nat.le_of_ble_eq_true rfl)) ⟨Nat.zero_le _, Nat.zero_le _⟩ rfl rfl rfl rfl rfl ⟨rfl, rfl, rfl⟩ dX4_open_33 ?_
  have h := Option.some.inj h
  subst h
  exact G_return hc rfl dX4_open_36
set_option maxHeartbeats 4000000 in
set_option maxRecDepth 100000 in
theorem c_X4_allOf (l : Launch) (D : va_G) (cI cS : ClassId) (X : XP) (F : Nat) (h_w h_w_stock h_w_weight h_w_known h_w_found h_wM : Nat) (w_measure : Bool) (w_values : Int32) (w_row : Int32) (w_rowCodes : Int32) (w_table : Int32) (w_length : Int32) (w_full : Int32) (w_pairs : Int32) (w_codes : Int32) (w_stock : Nat → Int32) (w_weight : Nat → Int32) (w_known : Nat → Int32) (w_found : Nat → Int32) (wM_which : Int32) (wM_x : Int32) (wM_y : Int32) (wM_row : Int32) (wM_table : Int32) (a1 : Int32) {res : Int32} (h : f_X4_allOf F w_values w_found a1 = some res) : CtI l D cI cS X yX4_allOf cX4_allOf 4 (some .int) 2 [.ref h_w, .int a1] [(h_w, .inr (4, [.ref h_w_stock, .ref h_w_weight, .ref h_w_known, .ref h_w_found, nv w_measure h_wM, .int w_values, .int w_row, .int w_rowCodes, .int w_table, .int w_length, .int w_full, .int w_pairs, .int w_codes])), (h_w_stock, .inl (cI, 16, .inl w_stock)), (h_w_weight, .inl (cI, 16, .inl w_weight)), (h_w_known, .inl (cI, 577, .inl w_known)), (h_w_found, .inl (cI, 6347, .inl w_found)), (h_wM, .inr (0, [.int wM_which, .int wM_x, .int wM_y, .int wM_row, .int wM_table]))] (PoI res [(h_w, .inr (4, [.ref h_w_stock, .ref h_w_weight, .ref h_w_known, .ref h_w_found, nv w_measure h_wM, .int w_values, .int w_row, .int w_rowCodes, .int w_table, .int w_length, .int w_full, .int w_pairs, .int w_codes])), (h_w_stock, .inl (cI, 16, .inl w_stock)), (h_w_weight, .inl (cI, 16, .inl w_weight)), (h_w_known, .inl (cI, 577, .inl w_known)), (h_w_found, .inl (cI, 6347, .inl w_found)), (h_wM, .inr (0, [.int wM_which, .int wM_x, .int wM_y, .int wM_row, .int wM_table]))]) := by
  refine CtI.of (by decide +kernel) rfl ?_
  intro p e s m below meth c A hc
  refine G_lv (lv' := [(0, .ref h_w), (1, .int a1)]) (lsame_cons rfl (lsame_cons rfl lsame_nil)) ?_
  unfold f_X4_allOf at h
  refine G_iconst (v := 0) hc dX4_allOf_0 (by decide) ?_
  refine G_istore_n (lv' := [(0, .ref h_w), (1, .int a1), (2, .int (0 : Int32))]) hc dX4_allOf_1 rfl rfl ?_
  refine G_iconst (v := 0) hc dX4_allOf_2 (by decide) ?_
  refine G_istore_n (lv' := [(0, .ref h_w), (1, .int a1), (2, .int (0 : Int32)), (3, .int (0 : Int32))]) hc dX4_allOf_3 rfl rfl ?_
  obtain ⟨e3, hl4, h⟩ := ob h
  have hK8 : G p l e (rmk 2) s m [.ref h_w, .int a1].toArray below meth c D A 4 0 0 (QI below [.ref h_w, .int a1].toArray s D A (PoI res [(h_w, .inr (4, [.ref h_w_stock, .ref h_w_weight, .ref h_w_known, .ref h_w_found, nv w_measure h_wM, .int w_values, .int w_row, .int w_rowCodes, .int w_table, .int w_length, .int w_full, .int w_pairs, .int w_codes])), (h_w_stock, .inl (cI, 16, .inl w_stock)), (h_w_weight, .inl (cI, 16, .inl w_weight)), (h_w_known, .inl (cI, 577, .inl w_known)), (h_w_found, .inl (cI, 6347, .inl w_found)), (h_wM, .inr (0, [.int wM_which, .int wM_x, .int wM_y, .int wM_row, .int wM_table]))])) [(h_w, .inr (4, [.ref h_w_stock, .ref h_w_weight, .ref h_w_known, .ref h_w_found, nv w_measure h_wM, .int w_values, .int w_row, .int w_rowCodes, .int w_table, .int w_length, .int w_full, .int w_pairs, .int w_codes])), (h_w_stock, .inl (cI, 16, .inl w_stock)), (h_w_weight, .inl (cI, 16, .inl w_weight)), (h_w_known, .inl (cI, 577, .inl w_known)), (h_w_found, .inl (cI, 6347, .inl w_found)), (h_wM, .inr (0, [.int wM_which, .int wM_x, .int wM_y, .int wM_row, .int wM_table]))] [(2, .int e3)] 27 [] := by
    refine G_iload_n hc dX4_allOf_27 rfl ?_
    have h := Option.some.inj h
    subst h
    exact G_ireturn hc ⟨rfl, rfl⟩ dX4_allOf_28
  clear h
  have hL5 : ∀ (n6 : Nat) (u1 : Int32) (u2 : Int32), f_X4_allOf_L4 F w_values w_found a1 n6 u1 u2 = some e3 → G p l e (rmk 2) s m [.ref h_w, .int a1].toArray below meth c D A 4 0 0 (QI below [.ref h_w, .int a1].toArray s D A (PoI res [(h_w, .inr (4, [.ref h_w_stock, .ref h_w_weight, .ref h_w_known, .ref h_w_found, nv w_measure h_wM, .int w_values, .int w_row, .int w_rowCodes, .int w_table, .int w_length, .int w_full, .int w_pairs, .int w_codes])), (h_w_stock, .inl (cI, 16, .inl w_stock)), (h_w_weight, .inl (cI, 16, .inl w_weight)), (h_w_known, .inl (cI, 577, .inl w_known)), (h_w_found, .inl (cI, 6347, .inl w_found)), (h_wM, .inr (0, [.int wM_which, .int wM_x, .int wM_y, .int wM_row, .int wM_table]))])) [(h_w, .inr (4, [.ref h_w_stock, .ref h_w_weight, .ref h_w_known, .ref h_w_found, nv w_measure h_wM, .int w_values, .int w_row, .int w_rowCodes, .int w_table, .int w_length, .int w_full, .int w_pairs, .int w_codes])), (h_w_stock, .inl (cI, 16, .inl w_stock)), (h_w_weight, .inl (cI, 16, .inl w_weight)), (h_w_known, .inl (cI, 577, .inl w_known)), (h_w_found, .inl (cI, 6347, .inl w_found)), (h_wM, .inr (0, [.int wM_which, .int wM_x, .int wM_y, .int wM_row, .int wM_table]))] [(0, .ref h_w), (1, .int a1), (2, .int u1), (3, .int u2)] 4 [] := by
    intro n6
    induction n6 with
    | zero =>
      intro u1 u2 h
      exact nz h
    | succ n6 ih7 =>
      intro u1 u2 h
      rw [f_X4_allOf_L4] at h
      refine G_iload_n hc dX4_allOf_4 rfl ?_
      refine G_aload_n hc dX4_allOf_5 rfl ?_
      refine G_get hc f_X4_77 0 rfl rfl dX4_allOf_6 ?_
      refine G_icmp_ge (tgt := 27) hc dX4_allOf_9 (by decide) (fun c13 => ?_) (fun c13 => ?_)
      · have h := ip h c13
        have h := Option.some.inj h
        subst h
        refine G_lv (lv' := [(2, .int u1)]) (lsame_cons rfl lsame_nil) ?_
        exact hK8
      · have h := inn h c13
        refine G_iload_n hc dX4_allOf_12 rfl ?_
        refine G_aload_n hc dX4_allOf_13 rfl ?_
        refine G_iload_n hc dX4_allOf_14 rfl ?_
        refine G_iload_n hc dX4_allOf_15 rfl ?_
        obtain ⟨z9, hu10, h⟩ := ob h
        refine G_callVI (ws2 := [(h_w, .inr (4, [.ref h_w_stock, .ref h_w_weight, .ref h_w_known, .ref h_w_found, nv w_measure h_wM, .int w_values, .int w_row, .int w_rowCodes, .int w_table, .int w_length, .int w_full, .int w_pairs, .int w_codes])), (h_w_stock, .inl (cI, 16, .inl w_stock)), (h_w_weight, .inl (cI, 16, .inl w_weight)), (h_w_known, .inl (cI, 577, .inl w_known)), (h_w_found, .inl (cI, 6347, .inl w_found)), (h_wM, .inr (0, [.int wM_which, .int wM_x, .int wM_y, .int wM_row, .int wM_table]))]) hc m_X4_138 (c_X4_number l D cI cS X F h_w h_w_stock h_w_weight h_w_known h_w_found h_wM w_measure w_values w_row w_rowCodes w_table w_length w_full w_pairs w_codes w_stock w_weight w_known w_found wM_which wM_x wM_y wM_row wM_table a1 u2 hu10) 0 [0, 1, 2, 3, 4, 5] rfl rfl (rmok_of (Nat.le_of_ble_eq_true rfl)) ⟨Nat.zero_le _, Nat.zero_le _⟩ rfl rfl rfl rfl rfl ⟨rfl, rfl, rfl⟩ dX4_allOf_16 ?_
        refine G_iadd hc dX4_allOf_19 ?_
        obtain ⟨v11, e_v11, h⟩ := sb h
        refine G_top e_v11 ?_
        refine G_istore_n (lv' := [(0, .ref h_w), (1, .int a1), (2, .int v11), (3, .int u2)]) hc dX4_allOf_20 rfl rfl ?_
        obtain ⟨v12, e_v12, h⟩ := sb h
        refine G_iinc (v := v12) (lv' := [(0, .ref h_w), (1, .int a1), (2, .int v11), (3, .int v12)]) hc dX4_allOf_21 rfl (e_v12.trans rfl) rfl rfl ?_
        refine G_goto (tgt := 4) hc dX4_allOf_24 (by decide) ?_
        refine G_lv (lv' := [(0, .ref h_w), (1, .int a1), (2, .int v11), (3, .int v12)]) (lsame_cons rfl (lsame_cons rfl (lsame_cons rfl (lsame_cons rfl lsame_nil)))) ?_
        exact ih7 _ _ h
  refine G_lv (lv' := [(0, .ref h_w), (1, .int a1), (2, .int (0 : Int32)), (3, .int (0 : Int32))]) (lsame_cons rfl (lsame_cons rfl (lsame_cons rfl (lsame_cons rfl lsame_nil)))) ?_
  exact hL5 F _ _ hl4
set_option maxHeartbeats 4000000 in
set_option maxRecDepth 100000 in
theorem c_X4_total (l : Launch) (D : va_G) (cI cS : ClassId) (X : XP) (F : Nat) (h_w h_w_stock h_w_weight h_w_known h_w_found h_wM : Nat) (w_measure : Bool) (w_values : Int32) (w_row : Int32) (w_rowCodes : Int32) (w_table : Int32) (w_length : Int32) (w_full : Int32) (w_pairs : Int32) (w_codes : Int32) (w_stock : Nat → Int32) (w_weight : Nat → Int32) (w_known : Nat → Int32) (w_found : Nat → Int32) (wM_which : Int32) (wM_x : Int32) (wM_y : Int32) (wM_row : Int32) (wM_table : Int32) {res : Int32} (h : f_X4_total F w_values w_found = some res) : CtI l D cI cS X yX4_total cX4_total 1 (some .int) 3 [.ref h_w] [(h_w, .inr (4, [.ref h_w_stock, .ref h_w_weight, .ref h_w_known, .ref h_w_found, nv w_measure h_wM, .int w_values, .int w_row, .int w_rowCodes, .int w_table, .int w_length, .int w_full, .int w_pairs, .int w_codes])), (h_w_stock, .inl (cI, 16, .inl w_stock)), (h_w_weight, .inl (cI, 16, .inl w_weight)), (h_w_known, .inl (cI, 577, .inl w_known)), (h_w_found, .inl (cI, 6347, .inl w_found)), (h_wM, .inr (0, [.int wM_which, .int wM_x, .int wM_y, .int wM_row, .int wM_table]))] (PoI res [(h_w, .inr (4, [.ref h_w_stock, .ref h_w_weight, .ref h_w_known, .ref h_w_found, nv w_measure h_wM, .int w_values, .int w_row, .int w_rowCodes, .int w_table, .int w_length, .int w_full, .int w_pairs, .int w_codes])), (h_w_stock, .inl (cI, 16, .inl w_stock)), (h_w_weight, .inl (cI, 16, .inl w_weight)), (h_w_known, .inl (cI, 577, .inl w_known)), (h_w_found, .inl (cI, 6347, .inl w_found)), (h_wM, .inr (0, [.int wM_which, .int wM_x, .int wM_y, .int wM_row, .int wM_table]))]) := by
  refine CtI.of (by decide +kernel) rfl ?_
  intro p e s m below meth c A hc
  refine G_lv (lv' := [(0, .ref h_w)]) (lsame_cons rfl lsame_nil) ?_
  unfold f_X4_total at h
  refine G_aload_n hc dX4_total_0 rfl ?_
  refine G_sipush (v := 576) hc dX4_total_1 (by decide) ?_
  obtain ⟨z1, hu2, h⟩ := ob h
  refine G_callVI (ws2 := [(h_w, .inr (4, [.ref h_w_stock, .ref h_w_weight, .ref h_w_known, .ref h_w_found, nv w_measure h_wM, .int w_values, .int w_row, .int w_rowCodes, .int w_table, .int w_length, .int w_full, .int w_pairs, .int w_codes])), (h_w_stock, .inl (cI, 16, .inl w_stock)), (h_w_weight, .inl (cI, 16, .inl w_weight)), (h_w_known, .inl (cI, 577, .inl w_known)), (h_w_found, .inl (cI, 6347, .inl w_found)), (h_wM, .inr (0, [.int wM_which, .int wM_x, .int wM_y, .int wM_row, .int wM_table]))]) hc m_X4_141 (c_X4_allOf l D cI cS X F h_w h_w_stock h_w_weight h_w_known h_w_found h_wM w_measure w_values w_row w_rowCodes w_table w_length w_full w_pairs w_codes w_stock w_weight w_known w_found wM_which wM_x wM_y wM_row wM_table (576 : Int32) hu2) 0 [0, 1, 2, 3, 4, 5] rfl rfl (rmok_of (Nat.le_of_ble_eq_true rfl)) ⟨Nat.zero_le _, Nat.zero_le _⟩ rfl rfl rfl rfl rfl ⟨rfl, rfl, rfl⟩ dX4_total_4 ?_
  have h := Option.some.inj h
  subst h
  exact G_ireturn hc ⟨rfl, rfl⟩ dX4_total_7
