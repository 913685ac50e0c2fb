set_option maxHeartbeats 4000000 in
set_option maxRecDepth 100000 in
theorem c_X0_init (l : Launch) (D : va_G) (cI cS : ClassId) (X : XP) (F : Nat) (h_q : Nat) {res : Unit} (h : f_X0_init F = some res) : CtC l D cI cS X yX0_init cX0_init 1 1 0 0 [.ref h_q] [(h_q, .inr (0, [.int (0 : Int32), .int (0 : Int32), .int (0 : Int32), .int (0 : Int32), .int (0 : Int32)]))] (fun w => w = [(h_q, .inr (0, [.int (0 : Int32), .int (0 : Int32), .int (0 : Int32), .int (0 : Int32), .int (0 : Int32)]))]) := by
  refine CtC.of (by decide +kernel) rfl rfl ?_
  intro p e s m below meth c A hc hin hao
  refine G_lv (lv' := [(0, .ref h_q)]) (lsame_cons rfl lsame_nil) ?_
  unfold f_X0_init at h
  refine G_aload_n hc dX0_init_0 rfl ?_
  refine G_objInit hc oi_X0_3 oiw ⟨rfl, rfl⟩ rfl dX0_init_1 ?_
  have h := Option.some.inj h
  subst h
  exact G_creturn hc rfl dX0_init_4
set_option maxHeartbeats 4000000 in
set_option maxRecDepth 100000 in
theorem c_X1_init (l : Launch) (D : va_G) (cI cS : ClassId) (X : XP) (F : Nat) (h_s : Nat) {res : Int32} (h : f_X1_init F = some res) : CtC l D cI cS X yX1_init cX1_init 4 2 1 8 [.ref h_s] [(h_s, .inr (1, [.int (0 : Int32), .int (0 : Int32), .int (0 : Int32), .null]))] (fun w => ∃ h_s_book : Nat, w = [(h_s, .inr (1, [.int (0 : Int32), .int res, .int (0 : Int32), .ref h_s_book])), (h_s_book, .inl (cI, 8, .inl zf))]) := by
  refine CtC.of (by decide +kernel) rfl rfl ?_
  intro p e s m below meth c A hc hin hao
  refine G_lv (lv' := [(0, .ref h_s)]) (lsame_cons rfl lsame_nil) ?_
  unfold f_X1_init at h
  refine G_aload_n hc dX1_init_0 rfl ?_
  refine G_objInit hc oi_X1_3 oiw ⟨rfl, rfl⟩ rfl dX1_init_1 ?_
  refine G_aload_n hc dX1_init_4 rfl ?_
  refine G_iconst (v := 0) hc dX1_init_5 (by decide) ?_
  refine G_puti (ws' := [(h_s, .inr (1, [.int (0 : Int32), .int (0 : Int32), .int (0 : Int32), .null]))]) hc f_X1_9 p_X1_0 0 rfl rfl rfl dX1_init_6 ?_
  refine G_aload_n hc dX1_init_9 rfl ?_
  refine G_bipush (v := 8) hc dX1_init_10 (by decide) ?_
  refine G_newarr hc aci (by decide) rfl rfl rfl rfl dX1_init_12 (c' := 1) (s' := 8) rfl rfl (fun q1 => ?_)
  refine G_ws (ws' := [(h_s, .inr (1, [.int (0 : Int32), .int (0 : Int32), .int (0 : Int32), .null])), (q1, .inl (cI, 8, .inl zf))]) rfl ?_
  refine G_putF (ws' := [(h_s, .inr (1, [.int (0 : Int32), .int (0 : Int32), .int (0 : Int32), .ref q1])), (q1, .inl (cI, 8, .inl zf))]) (v := .ref q1) hc hin f_X1_15 pF_X1_3 0 rfl rfl rfl rfl rfl dX1_init_14 ?_
  refine G_iconst (v := 0) hc dX1_init_17 (by decide) ?_
  refine G_istore_n (lv' := [(0, .ref h_s), (1, .int (0 : Int32))]) hc dX1_init_18 rfl rfl ?_
  refine G_iload_n hc dX1_init_19 rfl ?_
  refine G_bipush (v := 16) hc dX1_init_20 (by decide) ?_
  refine G_icmp_ge (tgt := 57) hc dX1_init_22 (by decide) (fun h => absurd h (by decide)) (fun _ => ?_)
  refine G_iload_n hc dX1_init_25 rfl ?_
  refine G_iconst (v := 4) hc dX1_init_26 (by decide) ?_
  refine G_idiv hc dX1_init_27 (by decide) ?_
  refine G_top (y := (0 : Int32)) (by decide) ?_
  refine G_istore_n (lv' := [(0, .ref h_s), (1, .int (0 : Int32)), (2, .int (0 : Int32))]) hc dX1_init_28 rfl rfl ?_
  refine G_iload_n hc dX1_init_29 rfl ?_
  refine G_iconst (v := 4) hc dX1_init_30 (by decide) ?_
  refine G_irem hc dX1_init_31 (by decide) ?_
  refine G_top (y := (0 : Int32)) (by decide) ?_
  refine G_istore_n (lv' := [(0, .ref h_s), (1, .int (0 : Int32)), (2, .int (0 : Int32)), (3, .int (0 : Int32))]) hc dX1_init_32 rfl rfl ?_
  refine G_aload_n hc dX1_init_33 rfl ?_
  refine G_aload_n hc dX1_init_34 rfl ?_
  refine G_get hc f_X1_19 0 rfl rfl dX1_init_35 ?_
  refine G_iload_n hc dX1_init_38 rfl ?_
  refine G_iload_n hc dX1_init_39 rfl ?_
  refine G_iload_n hc dX1_init_40 rfl ?_
  refine G_iload_n hc dX1_init_41 rfl ?_
  refine G_iadd hc dX1_init_42 ?_
  refine G_top (y := (0 : Int32)) (by decide) ?_
  refine G_iconst (v := 4) hc dX1_init_43 (by decide) ?_
  refine G_irem hc dX1_init_44 (by decide) ?_
  refine G_top (y := (0 : Int32)) (by decide) ?_
  obtain ⟨z2, hu3, h⟩ := ob h
  refine G_callNI (ws2 := [(h_s, .inr (1, [.int (0 : Int32), .int (0 : Int32), .int (0 : Int32), .ref q1])), (q1, .inl (cI, 8, .inl zf))]) hc m_X1_22 (c_X5_withCode l D cI cS X F (0 : Int32) (0 : Int32) (0 : Int32) (0 : Int32) hu3) [] (rmok_c (Nat.le_of_ble_eq_true rfl)) ⟨Nat.le_of_ble_eq_true rfl, Nat.le_of_ble_eq_true rfl⟩ rfl rfl rfl rfl rfl ⟨rfl, rfl, rfl⟩ dX1_init_45 ?_
  refine G_puti (ws' := [(h_s, .inr (1, [.int (0 : Int32), .int z2, .int (0 : Int32), .ref q1])), (q1, .inl (cI, 8, .inl zf))]) hc f_X1_19 p_X1_1 0 rfl rfl rfl dX1_init_48 ?_
  refine G_iinc (v := (1 : Int32)) (lv' := [(0, .ref h_s), (1, .int (1 : Int32)), (2, .int (0 : Int32)), (3, .int (0 : Int32))]) hc dX1_init_51 rfl (by decide) rfl rfl ?_
  refine G_goto (tgt := 19) hc dX1_init_54 (by decide) ?_
  refine G_iload_n hc dX1_init_19 rfl ?_
  refine G_bipush (v := 16) hc dX1_init_20 (by decide) ?_
  refine G_icmp_ge (tgt := 57) hc dX1_init_22 (by decide) (fun h => absurd h (by decide)) (fun _ => ?_)
  refine G_iload_n hc dX1_init_25 rfl ?_
  refine G_iconst (v := 4) hc dX1_init_26 (by decide) ?_
  refine G_idiv hc dX1_init_27 (by decide) ?_
  refine G_top (y := (0 : Int32)) (by decide) ?_
  refine G_istore_n (lv' := [(0, .ref h_s), (1, .int (1 : Int32)), (2, .int (0 : Int32)), (3, .int (0 : Int32))]) hc dX1_init_28 rfl rfl ?_
  refine G_iload_n hc dX1_init_29 rfl ?_
  refine G_iconst (v := 4) hc dX1_init_30 (by decide) ?_
  refine G_irem hc dX1_init_31 (by decide) ?_
  refine G_top (y := (1 : Int32)) (by decide) ?_
  refine G_istore_n (lv' := [(0, .ref h_s), (1, .int (1 : Int32)), (2, .int (0 : Int32)), (3, .int (1 : Int32))]) hc dX1_init_32 rfl rfl ?_
  refine G_aload_n hc dX1_init_33 rfl ?_
  refine G_aload_n hc dX1_init_34 rfl ?_
  refine G_get hc f_X1_19 0 rfl rfl dX1_init_35 ?_
  refine G_iload_n hc dX1_init_38 rfl ?_
  refine G_iload_n hc dX1_init_39 rfl ?_
  refine G_iload_n hc dX1_init_40 rfl ?_
  refine G_iload_n hc dX1_init_41 rfl ?_
  refine G_iadd hc dX1_init_42 ?_
  refine G_top (y := (1 : Int32)) (by decide) ?_
  refine G_iconst (v := 4) hc dX1_init_43 (by decide) ?_
  refine G_irem hc dX1_init_44 (by decide) ?_
  refine G_top (y := (1 : Int32)) (by decide) ?_
  obtain ⟨z4, hu5, h⟩ := ob h
  refine G_callNI (ws2 := [(h_s, .inr (1, [.int (0 : Int32), .int z2, .int (0 : Int32), .ref q1])), (q1, .inl (cI, 8, .inl zf))]) hc m_X1_22 (c_X5_withCode l D cI cS X F z2 (0 : Int32) (1 : Int32) (1 : Int32) hu5) [] (rmok_c (Nat.le_of_ble_eq_true rfl)) ⟨Nat.le_of_ble_eq_true rfl, Nat.le_of_ble_eq_true rfl⟩ rfl rfl rfl rfl rfl ⟨rfl, rfl, rfl⟩ dX1_init_45 ?_
  refine G_puti (ws' := [(h_s, .inr (1, [.int (0 : Int32), .int z4, .int (0 : Int32), .ref q1])), (q1, .inl (cI, 8, .inl zf))]) hc f_X1_19 p_X1_1 0 rfl rfl rfl dX1_init_48 ?_
  refine G_iinc (v := (2 : Int32)) (lv' := [(0, .ref h_s), (1, .int (2 : Int32)), (2, .int (0 : Int32)), (3, .int (1 : Int32))]) hc dX1_init_51 rfl (by decide) rfl rfl ?_
  refine G_goto (tgt := 19) hc dX1_init_54 (by decide) ?_
  refine G_iload_n hc dX1_init_19 rfl ?_
  refine G_bipush (v := 16) hc dX1_init_20 (by decide) ?_
  refine G_icmp_ge (tgt := 57) hc dX1_init_22 (by decide) (fun h => absurd h (by decide)) (fun _ => ?_)
  refine G_iload_n hc dX1_init_25 rfl ?_
  refine G_iconst (v := 4) hc dX1_init_26 (by decide) ?_
  refine G_idiv hc dX1_init_27 (by decide) ?_
  refine G_top (y := (0 : Int32)) (by decide) ?_
  refine G_istore_n (lv' := [(0, .ref h_s), (1, .int (2 : Int32)), (2, .int (0 : Int32)), (3, .int (1 : Int32))]) hc dX1_init_28 rfl rfl ?_
  refine G_iload_n hc dX1_init_29 rfl ?_
  refine G_iconst (v := 4) hc dX1_init_30 (by decide) ?_
  refine G_irem hc dX1_init_31 (by decide) ?_
  refine G_top (y := (2 : Int32)) (by decide) ?_
  refine G_istore_n (lv' := [(0, .ref h_s), (1, .int (2 : Int32)), (2, .int (0 : Int32)), (3, .int (2 : Int32))]) hc dX1_init_32 rfl rfl ?_
  refine G_aload_n hc dX1_init_33 rfl ?_
  refine G_aload_n hc dX1_init_34 rfl ?_
  refine G_get hc f_X1_19 0 rfl rfl dX1_init_35 ?_
  refine G_iload_n hc dX1_init_38 rfl ?_
  refine G_iload_n hc dX1_init_39 rfl ?_
  refine G_iload_n hc dX1_init_40 rfl ?_
  refine G_iload_n hc dX1_init_41 rfl ?_
  refine G_iadd hc dX1_init_42 ?_
  refine G_top (y := (2 : Int32)) (by decide) ?_
  refine G_iconst (v := 4) hc dX1_init_43 (by decide) ?_
  refine G_irem hc dX1_init_44 (by decide) ?_
  refine G_top (y := (2 : Int32)) (by decide) ?_
  obtain ⟨z6, hu7, h⟩ := ob h
  refine G_callNI (ws2 := [(h_s, .inr (1, [.int (0 : Int32), .int z4, .int (0 : Int32), .ref q1])), (q1, .inl (cI, 8, .inl zf))]) hc m_X1_22 (c_X5_withCode l D cI cS X F z4 (0 : Int32) (2 : Int32) (2 : Int32) hu7) [] (rmok_c (Nat.le_of_ble_eq_true rfl)) ⟨Nat.le_of_ble_eq_true rfl, Nat.le_of_ble_eq_true rfl⟩ rfl rfl rfl rfl rfl ⟨rfl, rfl, rfl⟩ dX1_init_45 ?_
  refine G_puti (ws' := [(h_s, .inr (1, [.int (0 : Int32), .int z6, .int (0 : Int32), .ref q1])), (q1, .inl (cI, 8, .inl zf))]) hc f_X1_19 p_X1_1 0 rfl rfl rfl dX1_init_48 ?_
  refine G_iinc (v := (3 : Int32)) (lv' := [(0, .ref h_s), (1, .int (3 : Int32)), (2, .int (0 : Int32)), (3, .int (2 : Int32))]) hc dX1_init_51 rfl (by decide) rfl rfl ?_
  refine G_goto (tgt := 19) hc dX1_init_54 (by decide) ?_
  refine G_iload_n hc dX1_init_19 rfl ?_
  refine G_bipush (v := 16) hc dX1_init_20 (by decide) ?_
  refine G_icmp_ge (tgt := 57) hc dX1_init_22 (by decide) (fun h => absurd h (by decide)) (fun _ => ?_)
  refine G_iload_n hc dX1_init_25 rfl ?_
  refine G_iconst (v := 4) hc dX1_init_26 (by decide) ?_
  refine G_idiv hc dX1_init_27 (by decide) ?_
  refine G_top (y := (0 : Int32)) (by decide) ?_
  refine G_istore_n (lv' := [(0, .ref h_s), (1, .int (3 : Int32)), (2, .int (0 : Int32)), (3, .int (2 : Int32))]) hc dX1_init_28 rfl rfl ?_
  refine G_iload_n hc dX1_init_29 rfl ?_
  refine G_iconst (v := 4) hc dX1_init_30 (by decide) ?_
  refine G_irem hc dX1_init_31 (by decide) ?_
  refine G_top (y := (3 : Int32)) (by decide) ?_
  refine G_istore_n (lv' := [(0, .ref h_s), (1, .int (3 : Int32)), (2, .int (0 : Int32)), (3, .int (3 : Int32))]) hc dX1_init_32 rfl rfl ?_
  refine G_aload_n hc dX1_init_33 rfl ?_
  refine G_aload_n hc dX1_init_34 rfl ?_
  refine G_get hc f_X1_19 0 rfl rfl dX1_init_35 ?_
  refine G_iload_n hc dX1_init_38 rfl ?_
  refine G_iload_n hc dX1_init_39 rfl ?_
  refine G_iload_n hc dX1_init_40 rfl ?_
  refine G_iload_n hc dX1_init_41 rfl ?_
  refine G_iadd hc dX1_init_42 ?_
  refine G_top (y := (3 : Int32)) (by decide) ?_
  refine G_iconst (v := 4) hc dX1_init_43 (by decide) ?_
  refine G_irem hc dX1_init_44 (by decide) ?_
  refine G_top (y := (3 : Int32)) (by decide) ?_
  obtain ⟨z8, hu9, h⟩ := ob h
  refine G_callNI (ws2 := [(h_s, .inr (1, [.int (0 : Int32), .int z6, .int (0 : Int32), .ref q1])), (q1, .inl (cI, 8, .inl zf))]) hc m_X1_22 (c_X5_withCode l D cI cS X F z6 (0 : Int32) (3 : Int32) (3 : Int32) hu9) [] (rmok_c (Nat.le_of_ble_eq_true rfl)) ⟨Nat.le_of_ble_eq_true rfl, Nat.le_of_ble_eq_true rfl⟩ rfl rfl rfl rfl rfl ⟨rfl, rfl, rfl⟩ dX1_init_45 ?_
  refine G_puti (ws' := [(h_s, .inr (1, [.int (0 : Int32), .int z8, .int (0 : Int32), .ref q1])), (q1, .inl (cI, 8, .inl zf))]) hc f_X1_19 p_X1_1 0 rfl rfl rfl dX1_init_48 ?_
  refine G_iinc (v := (4 : Int32)) (lv' := [(0, .ref h_s), (1, .int (4 : Int32)), (2, .int (0 : Int32)), (3, .int (3 : Int32))]) hc dX1_init_51 rfl (by decide) rfl rfl ?_
  refine G_goto (tgt := 19) hc dX1_init_54 (by decide) ?_
  refine G_iload_n hc dX1_init_19 rfl ?_
  refine G_bipush (v := 16) hc dX1_init_20 (by decide) ?_
  refine G_icmp_ge (tgt := 57) hc dX1_init_22 (by decide) (fun h => absurd h (by decide)) (fun _ => ?_)
  refine G_iload_n hc dX1_init_25 rfl ?_
  refine G_iconst (v := 4) hc dX1_init_26 (by decide) ?_
  refine G_idiv hc dX1_init_27 (by decide) ?_
  refine G_top (y := (1 : Int32)) (by decide) ?_
  refine G_istore_n (lv' := [(0, .ref h_s), (1, .int (4 : Int32)), (2, .int (1 : Int32)), (3, .int (3 : Int32))]) hc dX1_init_28 rfl rfl ?_
  refine G_iload_n hc dX1_init_29 rfl ?_
  refine G_iconst (v := 4) hc dX1_init_30 (by decide) ?_
  refine G_irem hc dX1_init_31 (by decide) ?_
  refine G_top (y := (0 : Int32)) (by decide) ?_
  refine G_istore_n (lv' := [(0, .ref h_s), (1, .int (4 : Int32)), (2, .int (1 : Int32)), (3, .int (0 : Int32))]) hc dX1_init_32 rfl rfl ?_
  refine G_aload_n hc dX1_init_33 rfl ?_
  refine G_aload_n hc dX1_init_34 rfl ?_
  refine G_get hc f_X1_19 0 rfl rfl dX1_init_35 ?_
  refine G_iload_n hc dX1_init_38 rfl ?_
  refine G_iload_n hc dX1_init_39 rfl ?_
  refine G_iload_n hc dX1_init_40 rfl ?_
  refine G_iload_n hc dX1_init_41 rfl ?_
  refine G_iadd hc dX1_init_42 ?_
  refine G_top (y := (1 : Int32)) (by decide) ?_
  refine G_iconst (v := 4) hc dX1_init_43 (by decide) ?_
  refine G_irem hc dX1_init_44 (by decide) ?_
  refine G_top (y := (1 : Int32)) (by decide) ?_
  obtain ⟨z10, hu11, h⟩ := ob h
  refine G_callNI (ws2 := [(h_s, .inr (1, [.int (0 : Int32), .int z8, .int (0 : Int32), .ref q1])), (q1, .inl (cI, 8, .inl zf))]) hc m_X1_22 (c_X5_withCode l D cI cS X F z8 (1 : Int32) (0 : Int32) (1 : Int32) hu11) [] (rmok_c (Nat.le_of_ble_eq_true rfl)) ⟨Nat.le_of_ble_eq_true rfl, Nat.le_of_ble_eq_true rfl⟩ rfl rfl rfl rfl rfl ⟨rfl, rfl, rfl⟩ dX1_init_45 ?_
  refine G_puti (ws' := [(h_s, .inr (1, [.int (0 : Int32), .int z10, .int (0 : Int32), .ref q1])), (q1, .inl (cI, 8, .inl zf))]) hc f_X1_19 p_X1_1 0 rfl rfl rfl dX1_init_48 ?_
  refine G_iinc (v := (5 : Int32)) (lv' := [(0, .ref h_s), (1, .int (5 : Int32)), (2, .int (1 : Int32)), (3, .int (0 : Int32))]) hc dX1_init_51 rfl (by decide) rfl rfl ?_
  refine G_goto (tgt := 19) hc dX1_init_54 (by decide) ?_
  refine G_iload_n hc dX1_init_19 rfl ?_
  refine G_bipush (v := 16) hc dX1_init_20 (by decide) ?_
  refine G_icmp_ge (tgt := 57) hc dX1_init_22 (by decide) (fun h => absurd h (by decide)) (fun _ => ?_)
  refine G_iload_n hc dX1_init_25 rfl ?_
  refine G_iconst (v := 4) hc dX1_init_26 (by decide) ?_
  refine G_idiv hc dX1_init_27 (by decide) ?_
  refine G_top (y := (1 : Int32)) (by decide) ?_
  refine G_istore_n (lv' := [(0, .ref h_s), (1, .int (5 : Int32)), (2, .int (1 : Int32)), (3, .int (0 : Int32))]) hc dX1_init_28 rfl rfl ?_
  refine G_iload_n hc dX1_init_29 rfl ?_
  refine G_iconst (v := 4) hc dX1_init_30 (by decide) ?_
  refine G_irem hc dX1_init_31 (by decide) ?_
  refine G_top (y := (1 : Int32)) (by decide) ?_
  refine G_istore_n (lv' := [(0, .ref h_s), (1, .int (5 : Int32)), (2, .int (1 : Int32)), (3, .int (1 : Int32))]) hc dX1_init_32 rfl rfl ?_
  refine G_aload_n hc dX1_init_33 rfl ?_
  refine G_aload_n hc dX1_init_34 rfl ?_
  refine G_get hc f_X1_19 0 rfl rfl dX1_init_35 ?_
  refine G_iload_n hc dX1_init_38 rfl ?_
  refine G_iload_n hc dX1_init_39 rfl ?_
  refine G_iload_n hc dX1_init_40 rfl ?_
  refine G_iload_n hc dX1_init_41 rfl ?_
  refine G_iadd hc dX1_init_42 ?_
  refine G_top (y := (2 : Int32)) (by decide) ?_
  refine G_iconst (v := 4) hc dX1_init_43 (by decide) ?_
  refine G_irem hc dX1_init_44 (by decide) ?_
  refine G_top (y := (2 : Int32)) (by decide) ?_
  obtain ⟨z12, hu13, h⟩ := ob h
  refine G_callNI (ws2 := [(h_s, .inr (1, [.int (0 : Int32), .int z10, .int (0 : Int32), .ref q1])), (q1, .inl (cI, 8, .inl zf))]) hc m_X1_22 (c_X5_withCode l D cI cS X F z10 (1 : Int32) (1 : Int32) (2 : Int32) hu13) [] (rmok_c (Nat.le_of_ble_eq_true rfl)) ⟨Nat.le_of_ble_eq_true rfl, Nat.le_of_ble_eq_true rfl⟩ rfl rfl rfl rfl rfl ⟨rfl, rfl, rfl⟩ dX1_init_45 ?_
  refine G_puti (ws' := [(h_s, .inr (1, [.int (0 : Int32), .int z12, .int (0 : Int32), .ref q1])), (q1, .inl (cI, 8, .inl zf))]) hc f_X1_19 p_X1_1 0 rfl rfl rfl dX1_init_48 ?_
  refine G_iinc (v := (6 : Int32)) (lv' := [(0, .ref h_s), (1, .int (6 : Int32)), (2, .int (1 : Int32)), (3, .int (1 : Int32))]) hc dX1_init_51 rfl (by decide) rfl rfl ?_
  refine G_goto (tgt := 19) hc dX1_init_54 (by decide) ?_
  refine G_iload_n hc dX1_init_19 rfl ?_
  refine G_bipush (v := 16) hc dX1_init_20 (by decide) ?_
  refine G_icmp_ge (tgt := 57) hc dX1_init_22 (by decide) (fun h => absurd h (by decide)) (fun _ => ?_)
  refine G_iload_n hc dX1_init_25 rfl ?_
  refine G_iconst (v := 4) hc dX1_init_26 (by decide) ?_
  refine G_idiv hc dX1_init_27 (by decide) ?_
  refine G_top (y := (1 : Int32)) (by decide) ?_
  refine G_istore_n (lv' := [(0, .ref h_s), (1, .int (6 : Int32)), (2, .int (1 : Int32)), (3, .int (1 : Int32))]) hc dX1_init_28 rfl rfl ?_
  refine G_iload_n hc dX1_init_29 rfl ?_
  refine G_iconst (v := 4) hc dX1_init_30 (by decide) ?_
  refine G_irem hc dX1_init_31 (by decide) ?_
  refine G_top (y := (2 : Int32)) (by decide) ?_
  refine G_istore_n (lv' := [(0, .ref h_s), (1, .int (6 : Int32)), (2, .int (1 : Int32)), (3, .int (2 : Int32))]) hc dX1_init_32 rfl rfl ?_
  refine G_aload_n hc dX1_init_33 rfl ?_
  refine G_aload_n hc dX1_init_34 rfl ?_
  refine G_get hc f_X1_19 0 rfl rfl dX1_init_35 ?_
  refine G_iload_n hc dX1_init_38 rfl ?_
  refine G_iload_n hc dX1_init_39 rfl ?_
  refine G_iload_n hc dX1_init_40 rfl ?_
  refine G_iload_n hc dX1_init_41 rfl ?_
  refine G_iadd hc dX1_init_42 ?_
  refine G_top (y := (3 : Int32)) (by decide) ?_
  refine G_iconst (v := 4) hc dX1_init_43 (by decide) ?_
  refine G_irem hc dX1_init_44 (by decide) ?_
  refine G_top (y := (3 : Int32)) (by decide) ?_
  obtain ⟨z14, hu15, h⟩ := ob h
  refine G_callNI (ws2 := [(h_s, .inr (1, [.int (0 : Int32), .int z12, .int (0 : Int32), .ref q1])), (q1, .inl (cI, 8, .inl zf))]) hc m_X1_22 (c_X5_withCode l D cI cS X F z12 (1 : Int32) (2 : Int32) (3 : Int32) hu15) [] (rmok_c (Nat.le_of_ble_eq_true rfl)) ⟨Nat.le_of_ble_eq_true rfl, Nat.le_of_ble_eq_true rfl⟩ rfl rfl rfl rfl rfl ⟨rfl, rfl, rfl⟩ dX1_init_45 ?_
  refine G_puti (ws' := [(h_s, .inr (1, [.int (0 : Int32), .int z14, .int (0 : Int32), .ref q1])), (q1, .inl (cI, 8, .inl zf))]) hc f_X1_19 p_X1_1 0 rfl rfl rfl dX1_init_48 ?_
  refine G_iinc (v := (7 : Int32)) (lv' := [(0, .ref h_s), (1, .int (7 : Int32)), (2, .int (1 : Int32)), (3, .int (2 : Int32))]) hc dX1_init_51 rfl (by decide) rfl rfl ?_
  refine G_goto (tgt := 19) hc dX1_init_54 (by decide) ?_
  refine G_iload_n hc dX1_init_19 rfl ?_
  refine G_bipush (v := 16) hc dX1_init_20 (by decide) ?_
  refine G_icmp_ge (tgt := 57) hc dX1_init_22 (by decide) (fun h => absurd h (by decide)) (fun _ => ?_)
  refine G_iload_n hc dX1_init_25 rfl ?_
  refine G_iconst (v := 4) hc dX1_init_26 (by decide) ?_
  refine G_idiv hc dX1_init_27 (by decide) ?_
  refine G_top (y := (1 : Int32)) (by decide) ?_
  refine G_istore_n (lv' := [(0, .ref h_s), (1, .int (7 : Int32)), (2, .int (1 : Int32)), (3, .int (2 : Int32))]) hc dX1_init_28 rfl rfl ?_
  refine G_iload_n hc dX1_init_29 rfl ?_
  refine G_iconst (v := 4) hc dX1_init_30 (by decide) ?_
  refine G_irem hc dX1_init_31 (by decide) ?_
  refine G_top (y := (3 : Int32)) (by decide) ?_
  refine G_istore_n (lv' := [(0, .ref h_s), (1, .int (7 : Int32)), (2, .int (1 : Int32)), (3, .int (3 : Int32))]) hc dX1_init_32 rfl rfl ?_
  refine G_aload_n hc dX1_init_33 rfl ?_
  refine G_aload_n hc dX1_init_34 rfl ?_
  refine G_get hc f_X1_19 0 rfl rfl dX1_init_35 ?_
  refine G_iload_n hc dX1_init_38 rfl ?_
  refine G_iload_n hc dX1_init_39 rfl ?_
  refine G_iload_n hc dX1_init_40 rfl ?_
  refine G_iload_n hc dX1_init_41 rfl ?_
  refine G_iadd hc dX1_init_42 ?_
  refine G_top (y := (4 : Int32)) (by decide) ?_
  refine G_iconst (v := 4) hc dX1_init_43 (by decide) ?_
  refine G_irem hc dX1_init_44 (by decide) ?_
  refine G_top (y := (0 : Int32)) (by decide) ?_
  obtain ⟨z16, hu17, h⟩ := ob h
  refine G_callNI (ws2 := [(h_s, .inr (1, [.int (0 : Int32), .int z14, .int (0 : Int32), .ref q1])), (q1, .inl (cI, 8, .inl zf))]) hc m_X1_22 (c_X5_withCode l D cI cS X F z14 (1 : Int32) (3 : Int32) (0 : Int32) hu17) [] (rmok_c (Nat.le_of_ble_eq_true rfl)) ⟨Nat.le_of_ble_eq_true rfl, Nat.le_of_ble_eq_true rfl⟩ rfl rfl rfl rfl rfl ⟨rfl, rfl, rfl⟩ dX1_init_45 ?_
  refine G_puti (ws' := [(h_s, .inr (1, [.int (0 : Int32), .int z16, .int (0 : Int32), .ref q1])), (q1, .inl (cI, 8, .inl zf))]) hc f_X1_19 p_X1_1 0 rfl rfl rfl dX1_init_48 ?_
  refine G_iinc (v := (8 : Int32)) (lv' := [(0, .ref h_s), (1, .int (8 : Int32)), (2, .int (1 : Int32)), (3, .int (3 : Int32))]) hc dX1_init_51 rfl (by decide) rfl rfl ?_
  refine G_goto (tgt := 19) hc dX1_init_54 (by decide) ?_
  refine G_iload_n hc dX1_init_19 rfl ?_
  refine G_bipush (v := 16) hc dX1_init_20 (by decide) ?_
  refine G_icmp_ge (tgt := 57) hc dX1_init_22 (by decide) (fun h => absurd h (by decide)) (fun _ => ?_)
  refine G_iload_n hc dX1_init_25 rfl ?_
  refine G_iconst (v := 4) hc dX1_init_26 (by decide) ?_
  refine G_idiv hc dX1_init_27 (by decide) ?_
  refine G_top (y := (2 : Int32)) (by decide) ?_
  refine G_istore_n (lv' := [(0, .ref h_s), (1, .int (8 : Int32)), (2, .int (2 : Int32)), (3, .int (3 : Int32))]) hc dX1_init_28 rfl rfl ?_
  refine G_iload_n hc dX1_init_29 rfl ?_
  refine G_iconst (v := 4) hc dX1_init_30 (by decide) ?_
  refine G_irem hc dX1_init_31 (by decide) ?_
  refine G_top (y := (0 : Int32)) (by decide) ?_
  refine G_istore_n (lv' := [(0, .ref h_s), (1, .int (8 : Int32)), (2, .int (2 : Int32)), (3, .int (0 : Int32))]) hc dX1_init_32 rfl rfl ?_
  refine G_aload_n hc dX1_init_33 rfl ?_
  refine G_aload_n hc dX1_init_34 rfl ?_
  refine G_get hc f_X1_19 0 rfl rfl dX1_init_35 ?_
  refine G_iload_n hc dX1_init_38 rfl ?_
  refine G_iload_n hc dX1_init_39 rfl ?_
  refine G_iload_n hc dX1_init_40 rfl ?_
  refine G_iload_n hc dX1_init_41 rfl ?_
  refine G_iadd hc dX1_init_42 ?_
  refine G_top (y := (2 : Int32)) (by decide) ?_
  refine G_iconst (v := 4) hc dX1_init_43 (by decide) ?_
  refine G_irem hc dX1_init_44 (by decide) ?_
  refine G_top (y := (2 : Int32)) (by decide) ?_
  obtain ⟨z18, hu19, h⟩ := ob h
  refine G_callNI (ws2 := [(h_s, .inr (1, [.int (0 : Int32), .int z16, .int (0 : Int32), .ref q1])), (q1, .inl (cI, 8, .inl zf))]) hc m_X1_22 (c_X5_withCode l D cI cS X F z16 (2 : Int32) (0 : Int32) (2 : Int32) hu19) [] (rmok_c (Nat.le_of_ble_eq_true rfl)) ⟨Nat.le_of_ble_eq_true rfl, Nat.le_of_ble_eq_true rfl⟩ rfl rfl rfl rfl rfl ⟨rfl, rfl, rfl⟩ dX1_init_45 ?_
  refine G_puti (ws' := [(h_s, .inr (1, [.int (0 : Int32), .int z18, .int (0 : Int32), .ref q1])), (q1, .inl (cI, 8, .inl zf))]) hc f_X1_19 p_X1_1 0 rfl rfl rfl dX1_init_48 ?_
  refine G_iinc (v := (9 : Int32)) (lv' := [(0, .ref h_s), (1, .int (9 : Int32)), (2, .int (2 : Int32)), (3, .int (0 : Int32))]) hc dX1_init_51 rfl (by decide) rfl rfl ?_
  refine G_goto (tgt := 19) hc dX1_init_54 (by decide) ?_
  refine G_iload_n hc dX1_init_19 rfl ?_
  refine G_bipush (v := 16) hc dX1_init_20 (by decide) ?_
  refine G_icmp_ge (tgt := 57) hc dX1_init_22 (by decide) (fun h => absurd h (by decide)) (fun _ => ?_)
  refine G_iload_n hc dX1_init_25 rfl ?_
  refine G_iconst (v := 4) hc dX1_init_26 (by decide) ?_
  refine G_idiv hc dX1_init_27 (by decide) ?_
  refine G_top (y := (2 : Int32)) (by decide) ?_
  refine G_istore_n (lv' := [(0, .ref h_s), (1, .int (9 : Int32)), (2, .int (2 : Int32)), (3, .int (0 : Int32))]) hc dX1_init_28 rfl rfl ?_
  refine G_iload_n hc dX1_init_29 rfl ?_
  refine G_iconst (v := 4) hc dX1_init_30 (by decide) ?_
  refine G_irem hc dX1_init_31 (by decide) ?_
  refine G_top (y := (1 : Int32)) (by decide) ?_
  refine G_istore_n (lv' := [(0, .ref h_s), (1, .int (9 : Int32)), (2, .int (2 : Int32)), (3, .int (1 : Int32))]) hc dX1_init_32 rfl rfl ?_
  refine G_aload_n hc dX1_init_33 rfl ?_
  refine G_aload_n hc dX1_init_34 rfl ?_
  refine G_get hc f_X1_19 0 rfl rfl dX1_init_35 ?_
  refine G_iload_n hc dX1_init_38 rfl ?_
  refine G_iload_n hc dX1_init_39 rfl ?_
  refine G_iload_n hc dX1_init_40 rfl ?_
  refine G_iload_n hc dX1_init_41 rfl ?_
  refine G_iadd hc dX1_init_42 ?_
  refine G_top (y := (3 : Int32)) (by decide) ?_
  refine G_iconst (v := 4) hc dX1_init_43 (by decide) ?_
  refine G_irem hc dX1_init_44 (by decide) ?_
  refine G_top (y := (3 : Int32)) (by decide) ?_
  obtain ⟨z20, hu21, h⟩ := ob h
  refine G_callNI (ws2 := [(h_s, .inr (1, [.int (0 : Int32), .int z18, .int (0 : Int32), .ref q1])), (q1, .inl (cI, 8, .inl zf))]) hc m_X1_22 (c_X5_withCode l D cI cS X F z18 (2 : Int32) (1 : Int32) (3 : Int32) hu21) [] (rmok_c (Nat.le_of_ble_eq_true rfl)) ⟨Nat.le_of_ble_eq_true rfl, Nat.le_of_ble_eq_true rfl⟩ rfl rfl rfl rfl rfl ⟨rfl, rfl, rfl⟩ dX1_init_45 ?_
  refine G_puti (ws' := [(h_s, .inr (1, [.int (0 : Int32), .int z20, .int (0 : Int32), .ref q1])), (q1, .inl (cI, 8, .inl zf))]) hc f_X1_19 p_X1_1 0 rfl rfl rfl dX1_init_48 ?_
  refine G_iinc (v := (10 : Int32)) (lv' := [(0, .ref h_s), (1, .int (10 : Int32)), (2, .int (2 : Int32)), (3, .int (1 : Int32))]) hc dX1_init_51 rfl (by decide) rfl rfl ?_
  refine G_goto (tgt := 19) hc dX1_init_54 (by decide) ?_
  refine G_iload_n hc dX1_init_19 rfl ?_
  refine G_bipush (v := 16) hc dX1_init_20 (by decide) ?_
  refine G_icmp_ge (tgt := 57) hc dX1_init_22 (by decide) (fun h => absurd h (by decide)) (fun _ => ?_)
  refine G_iload_n hc dX1_init_25 rfl ?_
  refine G_iconst (v := 4) hc dX1_init_26 (by decide) ?_
  refine G_idiv hc dX1_init_27 (by decide) ?_
  refine G_top (y := (2 : Int32)) (by decide) ?_
  refine G_istore_n (lv' := [(0, .ref h_s), (1, .int (10 : Int32)), (2, .int (2 : Int32)), (3, .int (1 : Int32))]) hc dX1_init_28 rfl rfl ?_
  refine G_iload_n hc dX1_init_29 rfl ?_
  refine G_iconst (v := 4) hc dX1_init_30 (by decide) ?_
  refine G_irem hc dX1_init_31 (by decide) ?_
  refine G_top (y := (2 : Int32)) (by decide) ?_
  refine G_istore_n (lv' := [(0, .ref h_s), (1, .int (10 : Int32)), (2, .int (2 : Int32)), (3, .int (2 : Int32))]) hc dX1_init_32 rfl rfl ?_
  refine G_aload_n hc dX1_init_33 rfl ?_
  refine G_aload_n hc dX1_init_34 rfl ?_
  refine G_get hc f_X1_19 0 rfl rfl dX1_init_35 ?_
  refine G_iload_n hc dX1_init_38 rfl ?_
  refine G_iload_n hc dX1_init_39 rfl ?_
  refine G_iload_n hc dX1_init_40 rfl ?_
  refine G_iload_n hc dX1_init_41 rfl ?_
  refine G_iadd hc dX1_init_42 ?_
  refine G_top (y := (4 : Int32)) (by decide) ?_
  refine G_iconst (v := 4) hc dX1_init_43 (by decide) ?_
  refine G_irem hc dX1_init_44 (by decide) ?_
  refine G_top (y := (0 : Int32)) (by decide) ?_
  obtain ⟨z22, hu23, h⟩ := ob h
  refine G_callNI (ws2 := [(h_s, .inr (1, [.int (0 : Int32), .int z20, .int (0 : Int32), .ref q1])), (q1, .inl (cI, 8, .inl zf))]) hc m_X1_22 (c_X5_withCode l D cI cS X F z20 (2 : Int32) (2 : Int32) (0 : Int32) hu23) [] (rmok_c (Nat.le_of_ble_eq_true rfl)) ⟨Nat.le_of_ble_eq_true rfl, Nat.le_of_ble_eq_true rfl⟩ rfl rfl rfl rfl rfl ⟨rfl, rfl, rfl⟩ dX1_init_45 ?_
  refine G_puti (ws' := [(h_s, .inr (1, [.int (0 : Int32), .int z22, .int (0 : Int32), .ref q1])), (q1, .inl (cI, 8, .inl zf))]) hc f_X1_19 p_X1_1 0 rfl rfl rfl dX1_init_48 ?_
  refine G_iinc (v := (11 : Int32)) (lv' := [(0, .ref h_s), (1, .int (11 : Int32)), (2, .int (2 : Int32)), (3, .int (2 : Int32))]) hc dX1_init_51 rfl (by decide) rfl rfl ?_
  refine G_goto (tgt := 19) hc dX1_init_54 (by decide) ?_
  refine G_iload_n hc dX1_init_19 rfl ?_
  refine G_bipush (v := 16) hc dX1_init_20 (by decide) ?_
  refine G_icmp_ge (tgt := 57) hc dX1_init_22 (by decide) (fun h => absurd h (by decide)) (fun _ => ?_)
  refine G_iload_n hc dX1_init_25 rfl ?_
  refine G_iconst (v := 4) hc dX1_init_26 (by decide) ?_
  refine G_idiv hc dX1_init_27 (by decide) ?_
  refine G_top (y := (2 : Int32)) (by decide) ?_
  refine G_istore_n (lv' := [(0, .ref h_s), (1, .int (11 : Int32)), (2, .int (2 : Int32)), (3, .int (2 : Int32))]) hc dX1_init_28 rfl rfl ?_
  refine G_iload_n hc dX1_init_29 rfl ?_
  refine G_iconst (v := 4) hc dX1_init_30 (by decide) ?_
  refine G_irem hc dX1_init_31 (by decide) ?_
  refine G_top (y := (3 : Int32)) (by decide) ?_
  refine G_istore_n (lv' := [(0, .ref h_s), (1, .int (11 : Int32)), (2, .int (2 : Int32)), (3, .int (3 : Int32))]) hc dX1_init_32 rfl rfl ?_
  refine G_aload_n hc dX1_init_33 rfl ?_
  refine G_aload_n hc dX1_init_34 rfl ?_
  refine G_get hc f_X1_19 0 rfl rfl dX1_init_35 ?_
  refine G_iload_n hc dX1_init_38 rfl ?_
  refine G_iload_n hc dX1_init_39 rfl ?_
  refine G_iload_n hc dX1_init_40 rfl ?_
  refine G_iload_n hc dX1_init_41 rfl ?_
  refine G_iadd hc dX1_init_42 ?_
  refine G_top (y := (5 : Int32)) (by decide) ?_
  refine G_iconst (v := 4) hc dX1_init_43 (by decide) ?_
  refine G_irem hc dX1_init_44 (by decide) ?_
  refine G_top (y := (1 : Int32)) (by decide) ?_
  obtain ⟨z24, hu25, h⟩ := ob h
  refine G_callNI (ws2 := [(h_s, .inr (1, [.int (0 : Int32), .int z22, .int (0 : Int32), .ref q1])), (q1, .inl (cI, 8, .inl zf))]) hc m_X1_22 (c_X5_withCode l D cI cS X F z22 (2 : Int32) (3 : Int32) (1 : Int32) hu25) [] (rmok_c (Nat.le_of_ble_eq_true rfl)) ⟨Nat.le_of_ble_eq_true rfl, Nat.le_of_ble_eq_true rfl⟩ rfl rfl rfl rfl rfl ⟨rfl, rfl, rfl⟩ dX1_init_45 ?_
  refine G_puti (ws' := [(h_s, .inr (1, [.int (0 : Int32), .int z24, .int (0 : Int32), .ref q1])), (q1, .inl (cI, 8, .inl zf))]) hc f_X1_19 p_X1_1 0 rfl rfl rfl dX1_init_48 ?_
  refine G_iinc (v := (12 : Int32)) (lv' := [(0, .ref h_s), (1, .int (12 : Int32)), (2, .int (2 : Int32)), (3, .int (3 : Int32))]) hc dX1_init_51 rfl (by decide) rfl rfl ?_
  refine G_goto (tgt := 19) hc dX1_init_54 (by decide) ?_
  refine G_iload_n hc dX1_init_19 rfl ?_
  refine G_bipush (v := 16) hc dX1_init_20 (by decide) ?_
  refine G_icmp_ge (tgt := 57) hc dX1_init_22 (by decide) (fun h => absurd h (by decide)) (fun _ => ?_)
  refine G_iload_n hc dX1_init_25 rfl ?_
  refine G_iconst (v := 4) hc dX1_init_26 (by decide) ?_
  refine G_idiv hc dX1_init_27 (by decide) ?_
  refine G_top (y := (3 : Int32)) (by decide) ?_
  refine G_istore_n (lv' := [(0, .ref h_s), (1, .int (12 : Int32)), (2, .int (3 : Int32)), (3, .int (3 : Int32))]) hc dX1_init_28 rfl rfl ?_
  refine G_iload_n hc dX1_init_29 rfl ?_
  refine G_iconst (v := 4) hc dX1_init_30 (by decide) ?_
  refine G_irem hc dX1_init_31 (by decide) ?_
  refine G_top (y := (0 : Int32)) (by decide) ?_
  refine G_istore_n (lv' := [(0, .ref h_s), (1, .int (12 : Int32)), (2, .int (3 : Int32)), (3, .int (0 : Int32))]) hc dX1_init_32 rfl rfl ?_
  refine G_aload_n hc dX1_init_33 rfl ?_
  refine G_aload_n hc dX1_init_34 rfl ?_
  refine G_get hc f_X1_19 0 rfl rfl dX1_init_35 ?_
  refine G_iload_n hc dX1_init_38 rfl ?_
  refine G_iload_n hc dX1_init_39 rfl ?_
  refine G_iload_n hc dX1_init_40 rfl ?_
  refine G_iload_n hc dX1_init_41 rfl ?_
  refine G_iadd hc dX1_init_42 ?_
  refine G_top (y := (3 : Int32)) (by decide) ?_
  refine G_iconst (v := 4) hc dX1_init_43 (by decide) ?_
  refine G_irem hc dX1_init_44 (by decide) ?_
  refine G_top (y := (3 : Int32)) (by decide) ?_
  obtain ⟨z26, hu27, h⟩ := ob h
  refine G_callNI (ws2 := [(h_s, .inr (1, [.int (0 : Int32), .int z24, .int (0 : Int32), .ref q1])), (q1, .inl (cI, 8, .inl zf))]) hc m_X1_22 (c_X5_withCode l D cI cS X F z24 (3 : Int32) (0 : Int32) (3 : Int32) hu27) [] (rmok_c (Nat.le_of_ble_eq_true rfl)) ⟨Nat.le_of_ble_eq_true rfl, Nat.le_of_ble_eq_true rfl⟩ rfl rfl rfl rfl rfl ⟨rfl, rfl, rfl⟩ dX1_init_45 ?_
  refine G_puti (ws' := [(h_s, .inr (1, [.int (0 : Int32), .int z26, .int (0 : Int32), .ref q1])), (q1, .inl (cI, 8, .inl zf))]) hc f_X1_19 p_X1_1 0 rfl rfl rfl dX1_init_48 ?_
  refine G_iinc (v := (13 : Int32)) (lv' := [(0, .ref h_s), (1, .int (13 : Int32)), (2, .int (3 : Int32)), (3, .int (0 : Int32))]) hc dX1_init_51 rfl (by decide) rfl rfl ?_
  refine G_goto (tgt := 19) hc dX1_init_54 (by decide) ?_
  refine G_iload_n hc dX1_init_19 rfl ?_
  refine G_bipush (v := 16) hc dX1_init_20 (by decide) ?_
  refine G_icmp_ge (tgt := 57) hc dX1_init_22 (by decide) (fun h => absurd h (by decide)) (fun _ => ?_)
  refine G_iload_n hc dX1_init_25 rfl ?_
  refine G_iconst (v := 4) hc dX1_init_26 (by decide) ?_
  refine G_idiv hc dX1_init_27 (by decide) ?_
  refine G_top (y := (3 : Int32)) (by decide) ?_
  refine G_istore_n (lv' := [(0, .ref h_s), (1, .int (13 : Int32)), (2, .int (3 : Int32)), (3, .int (0 : Int32))]) hc dX1_init_28 rfl rfl ?_
  refine G_iload_n hc dX1_init_29 rfl ?_
  refine G_iconst (v := 4) hc dX1_init_30 (by decide) ?_
  refine G_irem hc dX1_init_31 (by decide) ?_
  refine G_top (y := (1 : Int32)) (by decide) ?_
  refine G_istore_n (lv' := [(0, .ref h_s), (1, .int (13 : Int32)), (2, .int (3 : Int32)), (3, .int (1 : Int32))]) hc dX1_init_32 rfl rfl ?_
  refine G_aload_n hc dX1_init_33 rfl ?_
  refine G_aload_n hc dX1_init_34 rfl ?_
  refine G_get hc f_X1_19 0 rfl rfl dX1_init_35 ?_
  refine G_iload_n hc dX1_init_38 rfl ?_
  refine G_iload_n hc dX1_init_39 rfl ?_
  refine G_iload_n hc dX1_init_40 rfl ?_
  refine G_iload_n hc dX1_init_41 rfl ?_
  refine G_iadd hc dX1_init_42 ?_
  refine G_top (y := (4 : Int32)) (by decide) ?_
  refine G_iconst (v := 4) hc dX1_init_43 (by decide) ?_
  refine G_irem hc dX1_init_44 (by decide) ?_
  refine G_top (y := (0 : Int32)) (by decide) ?_
  obtain ⟨z28, hu29, h⟩ := ob h
  refine G_callNI (ws2 := [(h_s, .inr (1, [.int (0 : Int32), .int z26, .int (0 : Int32), .ref q1])), (q1, .inl (cI, 8, .inl zf))]) hc m_X1_22 (c_X5_withCode l D cI cS X F z26 (3 : Int32) (1 : Int32) (0 : Int32) hu29) [] (rmok_c (Nat.le_of_ble_eq_true rfl)) ⟨Nat.le_of_ble_eq_true rfl, Nat.le_of_ble_eq_true rfl⟩ rfl rfl rfl rfl rfl ⟨rfl, rfl, rfl⟩ dX1_init_45 ?_
  refine G_puti (ws' := [(h_s, .inr (1, [.int (0 : Int32), .int z28, .int (0 : Int32), .ref q1])), (q1, .inl (cI, 8, .inl zf))]) hc f_X1_19 p_X1_1 0 rfl rfl rfl dX1_init_48 ?_
  refine G_iinc (v := (14 : Int32)) (lv' := [(0, .ref h_s), (1, .int (14 : Int32)), (2, .int (3 : Int32)), (3, .int (1 : Int32))]) hc dX1_init_51 rfl (by decide) rfl rfl ?_
  refine G_goto (tgt := 19) hc dX1_init_54 (by decide) ?_
  refine G_iload_n hc dX1_init_19 rfl ?_
  refine G_bipush (v := 16) hc dX1_init_20 (by decide) ?_
  refine G_icmp_ge (tgt := 57) hc dX1_init_22 (by decide) (fun h => absurd h (by decide)) (fun _ => ?_)
  refine G_iload_n hc dX1_init_25 rfl ?_
  refine G_iconst (v := 4) hc dX1_init_26 (by decide) ?_
  refine G_idiv hc dX1_init_27 (by decide) ?_
  refine G_top (y := (3 : Int32)) (by decide) ?_
  refine G_istore_n (lv' := [(0, .ref h_s), (1, .int (14 : Int32)), (2, .int (3 : Int32)), (3, .int (1 : Int32))]) hc dX1_init_28 rfl rfl ?_
  refine G_iload_n hc dX1_init_29 rfl ?_
  refine G_iconst (v := 4) hc dX1_init_30 (by decide) ?_
  refine G_irem hc dX1_init_31 (by decide) ?_
  refine G_top (y := (2 : Int32)) (by decide) ?_
  refine G_istore_n (lv' := [(0, .ref h_s), (1, .int (14 : Int32)), (2, .int (3 : Int32)), (3, .int (2 : Int32))]) hc dX1_init_32 rfl rfl ?_
  refine G_aload_n hc dX1_init_33 rfl ?_
  refine G_aload_n hc dX1_init_34 rfl ?_
  refine G_get hc f_X1_19 0 rfl rfl dX1_init_35 ?_
  refine G_iload_n hc dX1_init_38 rfl ?_
  refine G_iload_n hc dX1_init_39 rfl ?_
  refine G_iload_n hc dX1_init_40 rfl ?_
  refine G_iload_n hc dX1_init_41 rfl ?_
  refine G_iadd hc dX1_init_42 ?_
  refine G_top (y := (5 : Int32)) (by decide) ?_
  refine G_iconst (v := 4) hc dX1_init_43 (by decide) ?_
  refine G_irem hc dX1_init_44 (by decide) ?_
  refine G_top (y := (1 : Int32)) (by decide) ?_
  obtain ⟨z30, hu31, h⟩ := ob h
  refine G_callNI (ws2 := [(h_s, .inr (1, [.int (0 : Int32), .int z28, .int (0 : Int32), .ref q1])), (q1, .inl (cI, 8, .inl zf))]) hc m_X1_22 (c_X5_withCode l D cI cS X F z28 (3 : Int32) (2 : Int32) (1 : Int32) hu31) [] (rmok_c (Nat.le_of_ble_eq_true rfl)) ⟨Nat.le_of_ble_eq_true rfl, Nat.le_of_ble_eq_true rfl⟩ rfl rfl rfl rfl rfl ⟨rfl, rfl, rfl⟩ dX1_init_45 ?_
  refine G_puti (ws' := [(h_s, .inr (1, [.int (0 : Int32), .int z30, .int (0 : Int32), .ref q1])), (q1, .inl (cI, 8, .inl zf))]) hc f_X1_19 p_X1_1 0 rfl rfl rfl dX1_init_48 ?_
  refine G_iinc (v := (15 : Int32)) (lv' := [(0, .ref h_s), (1, .int (15 : Int32)), (2, .int (3 : Int32)), (3, .int (2 : Int32))]) hc dX1_init_51 rfl (by decide) rfl rfl ?_
  refine G_goto (tgt := 19) hc dX1_init_54 (by decide) ?_
  refine G_iload_n hc dX1_init_19 rfl ?_
  refine G_bipush (v := 16) hc dX1_init_20 (by decide) ?_
  refine G_icmp_ge (tgt := 57) hc dX1_init_22 (by decide) (fun h => absurd h (by decide)) (fun _ => ?_)
  refine G_iload_n hc dX1_init_25 rfl ?_
  refine G_iconst (v := 4) hc dX1_init_26 (by decide) ?_
  refine G_idiv hc dX1_init_27 (by decide) ?_
  refine G_top (y := (3 : Int32)) (by decide) ?_
  refine G_istore_n (lv' := [(0, .ref h_s), (1, .int (15 : Int32)), (2, .int (3 : Int32)), (3, .int (2 : Int32))]) hc dX1_init_28 rfl rfl ?_
  refine G_iload_n hc dX1_init_29 rfl ?_
  refine G_iconst (v := 4) hc dX1_init_30 (by decide) ?_
  refine G_irem hc dX1_init_31 (by decide) ?_
  refine G_top (y := (3 : Int32)) (by decide) ?_
  refine G_istore_n (lv' := [(0, .ref h_s), (1, .int (15 : Int32)), (2, .int (3 : Int32)), (3, .int (3 : Int32))]) hc dX1_init_32 rfl rfl ?_
  refine G_aload_n hc dX1_init_33 rfl ?_
  refine G_aload_n hc dX1_init_34 rfl ?_
  refine G_get hc f_X1_19 0 rfl rfl dX1_init_35 ?_
  refine G_iload_n hc dX1_init_38 rfl ?_
  refine G_iload_n hc dX1_init_39 rfl ?_
  refine G_iload_n hc dX1_init_40 rfl ?_
  refine G_iload_n hc dX1_init_41 rfl ?_
  refine G_iadd hc dX1_init_42 ?_
  refine G_top (y := (6 : Int32)) (by decide) ?_
  refine G_iconst (v := 4) hc dX1_init_43 (by decide) ?_
  refine G_irem hc dX1_init_44 (by decide) ?_
  refine G_top (y := (2 : Int32)) (by decide) ?_
  obtain ⟨z32, hu33, h⟩ := ob h
  refine G_callNI (ws2 := [(h_s, .inr (1, [.int (0 : Int32), .int z30, .int (0 : Int32), .ref q1])), (q1, .inl (cI, 8, .inl zf))]) hc m_X1_22 (c_X5_withCode l D cI cS X F z30 (3 : Int32) (3 : Int32) (2 : Int32) hu33) [] (rmok_c (Nat.le_of_ble_eq_true rfl)) ⟨Nat.le_of_ble_eq_true rfl, Nat.le_of_ble_eq_true rfl⟩ rfl rfl rfl rfl rfl ⟨rfl, rfl, rfl⟩ dX1_init_45 ?_
  refine G_puti (ws' := [(h_s, .inr (1, [.int (0 : Int32), .int z32, .int (0 : Int32), .ref q1])), (q1, .inl (cI, 8, .inl zf))]) hc f_X1_19 p_X1_1 0 rfl rfl rfl dX1_init_48 ?_
  refine G_iinc (v := (16 : Int32)) (lv' := [(0, .ref h_s), (1, .int (16 : Int32)), (2, .int (3 : Int32)), (3, .int (3 : Int32))]) hc dX1_init_51 rfl (by decide) rfl rfl ?_
  refine G_goto (tgt := 19) hc dX1_init_54 (by decide) ?_
  refine G_iload_n hc dX1_init_19 rfl ?_
  refine G_bipush (v := 16) hc dX1_init_20 (by decide) ?_
  refine G_icmp_ge (tgt := 57) hc dX1_init_22 (by decide) (fun _ => ?_) (fun h => absurd (by decide) h)
  have h := Option.some.inj h
  subst h
  exact G_creturn hc ⟨_, rfl⟩ dX1_init_57
set_option maxHeartbeats 4000000 in
set_option maxRecDepth 100000 in
theorem c_X2_init (l : Launch) (D : va_G) (cI cS : ClassId) (X : XP) (F : Nat) (h_t : Nat) {res : Unit} (h : f_X2_init F = some res) : CtC l D cI cS X yX2_init cX2_init 1 1 1 60 [.ref h_t] [(h_t, .inr (2, [.null, .int (0 : Int32), .int (0 : Int32), .int (0 : Int32), .int (0 : Int32), .int (0 : Int32), .int (0 : Int32), .int (0 : Int32)]))] (fun w => ∃ h_t_signs : Nat, w = [(h_t, .inr (2, [.ref h_t_signs, .int (0 : Int32), .int (0 : Int32), .int (0 : Int32), .int (0 : Int32), .int (0 : Int32), .int (0 : Int32), .int (0 : Int32)])), (h_t_signs, .inl (cI, 60, .inl zf))]) := by
  refine CtC.of (by decide +kernel) rfl rfl ?_
  intro p e s m below meth c A hc hin hao
  refine G_lv (lv' := [(0, .ref h_t)]) (lsame_cons rfl lsame_nil) ?_
  unfold f_X2_init at h
  refine G_aload_n hc dX2_init_0 rfl ?_
  refine G_objInit hc oi_X2_3 oiw ⟨rfl, rfl⟩ rfl dX2_init_1 ?_
  refine G_aload_n hc dX2_init_4 rfl ?_
  refine G_bipush (v := 60) hc dX2_init_5 (by decide) ?_
  refine G_newarr hc aci (by decide) rfl rfl rfl rfl dX2_init_7 (c' := 1) (s' := 60) rfl rfl (fun q1 => ?_)
  refine G_ws (ws' := [(h_t, .inr (2, [.null, .int (0 : Int32), .int (0 : Int32), .int (0 : Int32), .int (0 : Int32), .int (0 : Int32), .int (0 : Int32), .int (0 : Int32)])), (q1, .inl (cI, 60, .inl zf))]) rfl ?_
  refine G_putF (ws' := [(h_t, .inr (2, [.ref q1, .int (0 : Int32), .int (0 : Int32), .int (0 : Int32), .int (0 : Int32), .int (0 : Int32), .int (0 : Int32), .int (0 : Int32)])), (q1, .inl (cI, 60, .inl zf))]) (v := .ref q1) hc hin f_X2_9 pF_X2_0 0 rfl rfl rfl rfl rfl dX2_init_9 ?_
  have h := Option.some.inj h
  subst h
  exact G_creturn hc ⟨_, rfl⟩ dX2_init_12
set_option maxHeartbeats 4000000 in
set_option maxRecDepth 100000 in
theorem c_X3_init (l : Launch) (D : va_G) (cI cS : ClassId) (X : XP) (F : Nat) (h_y : Nat) {res : Int32} (h : f_X3_init F = some res) : CtC l D cI cS X yX3_init cX3_init 1 3 2 12 [.ref h_y] [(h_y, .inr (3, [.null, .int (0 : Int32), .int (0 : Int32), .int (0 : Int32), .int (0 : Int32)]))] (fun w => ∃ h_y_state h_y_state_book : Nat, w = [(h_y, .inr (3, [.ref h_y_state, .int (0 : Int32), .int (0 : Int32), .int (0 : Int32), .int (0 : Int32)])), (h_y_state, .inr (1, [.int (0 : Int32), .int res, .int (0 : Int32), .ref h_y_state_book])), (h_y_state_book, .inl (cI, 8, .inl zf))]) := by
  refine CtC.of (by decide +kernel) rfl rfl ?_
  intro p e s m below meth c A hc hin hao
  refine G_lv (lv' := [(0, .ref h_y)]) (lsame_cons rfl lsame_nil) ?_
  unfold f_X3_init at h
  refine G_aload_n hc dX3_init_0 rfl ?_
  refine G_objInit hc oi_X3_3 oiw ⟨rfl, rfl⟩ rfl dX3_init_1 ?_
  refine G_aload_n hc dX3_init_4 rfl ?_
  refine G_new hc n_X3_9 rfl rfl dX3_init_5 (c' := 1) (s' := 4) rfl rfl (fun q1 => ?_)
  refine G_ws (ws' := [(h_y, .inr (3, [.null, .int (0 : Int32), .int (0 : Int32), .int (0 : Int32), .int (0 : Int32)])), (q1, .inr (1, [.int (0 : Int32), .int (0 : Int32), .int (0 : Int32), .null]))]) rfl ?_
  refine G_dup hc dX3_init_8 rfl ?_
  obtain ⟨z2, hu3, h⟩ := ob h
  refine G_callC hc hao (wr := [(h_y, .inr (3, [.null, .int (0 : Int32), .int (0 : Int32), .int (0 : Int32), .int (0 : Int32)]))]) mi_X3_11 (c_X1_init l D cI cS X F q1 hu3) [1] [0] (rmok_c (Nat.le_of_ble_eq_true rfl)) ⟨rfl, rfl⟩ rfl rfl rfl rfl (by decide) rfl dX3_init_9 (c' := 2) (s' := 12) rfl rfl (fun w9 h9 => ?_)
  obtain ⟨q4, rfl⟩ := h9
  refine G_ws (ws' := [(h_y, .inr (3, [.null, .int (0 : Int32), .int (0 : Int32), .int (0 : Int32), .int (0 : Int32)])), (q1, .inr (1, [.int (0 : Int32), .int z2, .int (0 : Int32), .ref q4])), (q4, .inl (cI, 8, .inl zf))]) rfl ?_
  refine G_putF (ws' := [(h_y, .inr (3, [.ref q1, .int (0 : Int32), .int (0 : Int32), .int (0 : Int32), .int (0 : Int32)])), (q1, .inr (1, [.int (0 : Int32), .int z2, .int (0 : Int32), .ref q4])), (q4, .inl (cI, 8, .inl zf))]) (v := .ref q1) hc hin f_X3_12 pF_X3_0 0 rfl rfl rfl rfl rfl dX3_init_12 ?_
  have h := Option.some.inj h
  subst h
  exact G_creturn hc ⟨_, _, rfl⟩ dX3_init_15
set_option maxHeartbeats 4000000 in
set_option maxRecDepth 100000 in
theorem c_X4_init (l : Launch) (D : va_G) (cI cS : ClassId) (X : XP) (F : Nat) (h_w : Nat) {res : Unit} (h : f_X4_init F = some res) : CtC l D cI cS X yX4_init cX4_init 1 1 4 6956 [.ref h_w] [(h_w, .inr (4, [.null, .null, .null, .null, .null, .int (0 : Int32), .int (0 : Int32), .int (0 : Int32), .int (0 : Int32), .int (0 : Int32), .int (0 : Int32), .int (0 : Int32), .int (0 : Int32)]))] (fun w => ∃ h_w_stock h_w_weight h_w_known h_w_found : Nat, w = [(h_w, .inr (4, [.ref h_w_stock, .ref h_w_weight, .ref h_w_known, .ref h_w_found, .null, .int (0 : Int32), .int (0 : Int32), .int (0 : Int32), .int (0 : Int32), .int (0 : Int32), .int (0 : Int32), .int (0 : Int32), .int (0 : Int32)])), (h_w_stock, .inl (cI, 16, .inl zf)), (h_w_weight, .inl (cI, 16, .inl zf)), (h_w_known, .inl (cI, 577, .inl zf)), (h_w_found, .inl (cI, 6347, .inl zf))]) := by
  refine CtC.of (by decide +kernel) rfl rfl ?_
  intro p e s m below meth c A hc hin hao
  refine G_lv (lv' := [(0, .ref h_w)]) (lsame_cons rfl lsame_nil) ?_
  unfold f_X4_init at h
  refine G_aload_n hc dX4_init_0 rfl ?_
  refine G_objInit hc oi_X4_3 oiw ⟨rfl, rfl⟩ rfl dX4_init_1 ?_
  refine G_aload_n hc dX4_init_4 rfl ?_
  refine G_bipush (v := 16) hc dX4_init_5 (by decide) ?_
  refine G_newarr hc aci (by decide) rfl rfl rfl rfl dX4_init_7 (c' := 1) (s' := 16) rfl rfl (fun q1 => ?_)
  refine G_ws (ws' := [(h_w, .inr (4, [.null, .null, .null, .null, .null, .int (0 : Int32), .int (0 : Int32), .int (0 : Int32), .int (0 : Int32), .int (0 : Int32), .int (0 : Int32), .int (0 : Int32), .int (0 : Int32)])), (q1, .inl (cI, 16, .inl zf))]) rfl ?_
  refine G_putF (ws' := [(h_w, .inr (4, [.ref q1, .null, .null, .null, .null, .int (0 : Int32), .int (0 : Int32), .int (0 : Int32), .int (0 : Int32), .int (0 : Int32), .int (0 : Int32), .int (0 : Int32), .int (0 : Int32)])), (q1, .inl (cI, 16, .inl zf))]) (v := .ref q1) hc hin f_X4_9 pF_X4_0 0 rfl rfl rfl rfl rfl dX4_init_9 ?_
  refine G_aload_n hc dX4_init_12 rfl ?_
  refine G_bipush (v := 16) hc dX4_init_13 (by decide) ?_
  refine G_newarr hc aci (by decide) rfl rfl rfl rfl dX4_init_15 (c' := 2) (s' := 32) rfl rfl (fun q2 => ?_)
  refine G_ws (ws' := [(h_w, .inr (4, [.ref q1, .null, .null, .null, .null, .int (0 : Int32), .int (0 : Int32), .int (0 : Int32), .int (0 : Int32), .int (0 : Int32), .int (0 : Int32), .int (0 : Int32), .int (0 : Int32)])), (q1, .inl (cI, 16, .inl zf)), (q2, .inl (cI, 16, .inl zf))]) rfl ?_
  refine G_putF (ws' := [(h_w, .inr (4, [.ref q1, .ref q2, .null, .null, .null, .int (0 : Int32), .int (0 : Int32), .int (0 : Int32), .int (0 : Int32), .int (0 : Int32), .int (0 : Int32), .int (0 : Int32), .int (0 : Int32)])), (q1, .inl (cI, 16, .inl zf)), (q2, .inl (cI, 16, .inl zf))]) (v := .ref q2) hc hin f_X4_15 pF_X4_1 0 rfl rfl rfl rfl rfl dX4_init_17 ?_
  refine G_aload_n hc dX4_init_20 rfl ?_
  refine G_sipush (v := 577) hc dX4_init_21 (by decide) ?_
  refine G_newarr hc aci (by decide) rfl rfl rfl rfl dX4_init_24 (c' := 3) (s' := 609) rfl rfl (fun q3 => ?_)
  refine G_ws (ws' := [(h_w, .inr (4, [.ref q1, .ref q2, .null, .null, .null, .int (0 : Int32), .int (0 : Int32), .int (0 : Int32), .int (0 : Int32), .int (0 : Int32), .int (0 : Int32), .int (0 : Int32), .int (0 : Int32)])), (q1, .inl (cI, 16, .inl zf)), (q2, .inl (cI, 16, .inl zf)), (q3, .inl (cI, 577, .inl zf))]) rfl ?_
  refine G_putF (ws' := [(h_w, .inr (4, [.ref q1, .ref q2, .ref q3, .null, .null, .int (0 : Int32), .int (0 : Int32), .int (0 : Int32), .int (0 : Int32), .int (0 : Int32), .int (0 : Int32), .int (0 : Int32), .int (0 : Int32)])), (q1, .inl (cI, 16, .inl zf)), (q2, .inl (cI, 16, .inl zf)), (q3, .inl (cI, 577, .inl zf))]) (v := .ref q3) hc hin f_X4_18 pF_X4_2 0 rfl rfl rfl rfl rfl dX4_init_26 ?_
  refine G_aload_n hc dX4_init_29 rfl ?_
  refine G_sipush (v := 6347) hc dX4_init_30 (by decide) ?_
  refine G_newarr hc aci (by decide) rfl rfl rfl rfl dX4_init_33 (c' := 4) (s' := 6956) rfl rfl (fun q4 => ?_)
  refine G_ws (ws' := [(h_w, .inr (4, [.ref q1, .ref q2, .ref q3, .null, .null, .int (0 : Int32), .int (0 : Int32), .int (0 : Int32), .int (0 : Int32), .int (0 : Int32), .int (0 : Int32), .int (0 : Int32), .int (0 : Int32)])), (q1, .inl (cI, 16, .inl zf)), (q2, .inl (cI, 16, .inl zf)), (q3, .inl (cI, 577, .inl zf)), (q4, .inl (cI, 6347, .inl zf))]) rfl ?_
  refine G_putF (ws' := [(h_w, .inr (4, [.ref q1, .ref q2, .ref q3, .ref q4, .null, .int (0 : Int32), .int (0 : Int32), .int (0 : Int32), .int (0 : Int32), .int (0 : Int32), .int (0 : Int32), .int (0 : Int32), .int (0 : Int32)])), (q1, .inl (cI, 16, .inl zf)), (q2, .inl (cI, 16, .inl zf)), (q3, .inl (cI, 577, .inl zf)), (q4, .inl (cI, 6347, .inl zf))]) (v := .ref q4) hc hin f_X4_21 pF_X4_3 0 rfl rfl rfl rfl rfl dX4_init_35 ?_
  have h := Option.some.inj h
  subst h
  exact G_creturn hc ⟨_, _, _, _, rfl⟩ dX4_init_38
set_option maxHeartbeats 4000000 in
set_option maxRecDepth 100000 in
theorem c_X6_init (l : Launch) (D : va_G) (cI cS : ClassId) (X : XP) (F : Nat) (h_m : Nat) {res : (Nat → Int32)} (h : f_X6_init F = some res) : CtC l D cI cS X yX6_init cX6_init 2 1 6 782 [.ref h_m] [(h_m, .inr (6, [.null, .null, .null, .int (0 : Int32), .int (0 : Int32), .null, .int (0 : Int32), .null, .null, .int (0 : Int32), .int (0 : Int32), .int (0 : Int32), .int (0 : Int32), .int (0 : Int32), .int (0 : Int32)]))] (fun w => ∃ h_m_s h_m_past h_m_held h_m_text h_m_now h_m_kept : Nat, w = [(h_m, .inr (6, [.ref h_m_s, .ref h_m_past, .ref h_m_held, .int (0 : Int32), .int (0 : Int32), .ref h_m_text, .int (0 : Int32), .ref h_m_now, .ref h_m_kept, .int (0 : Int32), .int (0 : Int32), .int (0 : Int32), .int (0 : Int32), .int (0 : Int32), .int (0 : Int32)])), (h_m_s, .inl (cI, 116, .inl res)), (h_m_past, .inl (cI, 464, .inl zf)), (h_m_held, .inl (cI, 116, .inl zf)), (h_m_text, .inl (cI, 60, .inl zf)), (h_m_now, .inl (cI, 10, .inl zf)), (h_m_kept, .inl (cI, 16, .inl zf))]) := by
  refine CtC.of (by decide +kernel) rfl rfl ?_
  intro p e s m below meth c A hc hin hao
  refine G_lv (lv' := [(0, .ref h_m)]) (lsame_cons rfl lsame_nil) ?_
  unfold f_X6_init at h
  refine G_aload_n hc dX6_init_0 rfl ?_
  refine G_objInit hc oi_X6_1 oiw ⟨rfl, rfl⟩ rfl dX6_init_1 ?_
  refine G_aload_n hc dX6_init_4 rfl ?_
  refine G_bipush (v := 116) hc dX6_init_5 (by decide) ?_
  refine G_newarr hc aci (by decide) rfl rfl rfl rfl dX6_init_7 (c' := 1) (s' := 116) rfl rfl (fun q1 => ?_)
  refine G_ws (ws' := [(h_m, .inr (6, [.null, .null, .null, .int (0 : Int32), .int (0 : Int32), .null, .int (0 : Int32), .null, .null, .int (0 : Int32), .int (0 : Int32), .int (0 : Int32), .int (0 : Int32), .int (0 : Int32), .int (0 : Int32)])), (q1, .inl (cI, 116, .inl zf))]) rfl ?_
  refine G_putF (ws' := [(h_m, .inr (6, [.ref q1, .null, .null, .int (0 : Int32), .int (0 : Int32), .null, .int (0 : Int32), .null, .null, .int (0 : Int32), .int (0 : Int32), .int (0 : Int32), .int (0 : Int32), .int (0 : Int32), .int (0 : Int32)])), (q1, .inl (cI, 116, .inl zf))]) (v := .ref q1) hc hin f_X6_7 pF_X6_0 0 rfl rfl rfl rfl rfl dX6_init_9 ?_
  refine G_aload_n hc dX6_init_12 rfl ?_
  refine G_sipush (v := 464) hc dX6_init_13 (by decide) ?_
  refine G_newarr hc aci (by decide) rfl rfl rfl rfl dX6_init_16 (c' := 2) (s' := 580) rfl rfl (fun q2 => ?_)
  refine G_ws (ws' := [(h_m, .inr (6, [.ref q1, .null, .null, .int (0 : Int32), .int (0 : Int32), .null, .int (0 : Int32), .null, .null, .int (0 : Int32), .int (0 : Int32), .int (0 : Int32), .int (0 : Int32), .int (0 : Int32), .int (0 : Int32)])), (q1, .inl (cI, 116, .inl zf)), (q2, .inl (cI, 464, .inl zf))]) rfl ?_
  refine G_putF (ws' := [(h_m, .inr (6, [.ref q1, .ref q2, .null, .int (0 : Int32), .int (0 : Int32), .null, .int (0 : Int32), .null, .null, .int (0 : Int32), .int (0 : Int32), .int (0 : Int32), .int (0 : Int32), .int (0 : Int32), .int (0 : Int32)])), (q1, .inl (cI, 116, .inl zf)), (q2, .inl (cI, 464, .inl zf))]) (v := .ref q2) hc hin f_X6_13 pF_X6_1 0 rfl rfl rfl rfl rfl dX6_init_18 ?_
  refine G_aload_n hc dX6_init_21 rfl ?_
  refine G_bipush (v := 116) hc dX6_init_22 (by decide) ?_
  refine G_newarr hc aci (by decide) rfl rfl rfl rfl dX6_init_24 (c' := 3) (s' := 696) rfl rfl (fun q3 => ?_)
  refine G_ws (ws' := [(h_m, .inr (6, [.ref q1, .ref q2, .null, .int (0 : Int32), .int (0 : Int32), .null, .int (0 : Int32), .null, .null, .int (0 : Int32), .int (0 : Int32), .int (0 : Int32), .int (0 : Int32), .int (0 : Int32), .int (0 : Int32)])), (q1, .inl (cI, 116, .inl zf)), (q2, .inl (cI, 464, .inl zf)), (q3, .inl (cI, 116, .inl zf))]) rfl ?_
  refine G_putF (ws' := [(h_m, .inr (6, [.ref q1, .ref q2, .ref q3, .int (0 : Int32), .int (0 : Int32), .null, .int (0 : Int32), .null, .null, .int (0 : Int32), .int (0 : Int32), .int (0 : Int32), .int (0 : Int32), .int (0 : Int32), .int (0 : Int32)])), (q1, .inl (cI, 116, .inl zf)), (q2, .inl (cI, 464, .inl zf)), (q3, .inl (cI, 116, .inl zf))]) (v := .ref q3) hc hin f_X6_16 pF_X6_2 0 rfl rfl rfl rfl rfl dX6_init_26 ?_
  refine G_aload_n hc dX6_init_29 rfl ?_
  refine G_bipush (v := 60) hc dX6_init_30 (by decide) ?_
  refine G_newarr hc aci (by decide) rfl rfl rfl rfl dX6_init_32 (c' := 4) (s' := 756) rfl rfl (fun q4 => ?_)
  refine G_ws (ws' := [(h_m, .inr (6, [.ref q1, .ref q2, .ref q3, .int (0 : Int32), .int (0 : Int32), .null, .int (0 : Int32), .null, .null, .int (0 : Int32), .int (0 : Int32), .int (0 : Int32), .int (0 : Int32), .int (0 : Int32), .int (0 : Int32)])), (q1, .inl (cI, 116, .inl zf)), (q2, .inl (cI, 464, .inl zf)), (q3, .inl (cI, 116, .inl zf)), (q4, .inl (cI, 60, .inl zf))]) rfl ?_
  refine G_putF (ws' := [(h_m, .inr (6, [.ref q1, .ref q2, .ref q3, .int (0 : Int32), .int (0 : Int32), .ref q4, .int (0 : Int32), .null, .null, .int (0 : Int32), .int (0 : Int32), .int (0 : Int32), .int (0 : Int32), .int (0 : Int32), .int (0 : Int32)])), (q1, .inl (cI, 116, .inl zf)), (q2, .inl (cI, 464, .inl zf)), (q3, .inl (cI, 116, .inl zf)), (q4, .inl (cI, 60, .inl zf))]) (v := .ref q4) hc hin f_X6_19 pF_X6_5 0 rfl rfl rfl rfl rfl dX6_init_34 ?_
  refine G_aload_n hc dX6_init_37 rfl ?_
  refine G_bipush (v := 10) hc dX6_init_38 (by decide) ?_
  refine G_newarr hc aci (by decide) rfl rfl rfl rfl dX6_init_40 (c' := 5) (s' := 766) rfl rfl (fun q5 => ?_)
  refine G_ws (ws' := [(h_m, .inr (6, [.ref q1, .ref q2, .ref q3, .int (0 : Int32), .int (0 : Int32), .ref q4, .int (0 : Int32), .null, .null, .int (0 : Int32), .int (0 : Int32), .int (0 : Int32), .int (0 : Int32), .int (0 : Int32), .int (0 : Int32)])), (q1, .inl (cI, 116, .inl zf)), (q2, .inl (cI, 464, .inl zf)), (q3, .inl (cI, 116, .inl zf)), (q4, .inl (cI, 60, .inl zf)), (q5, .inl (cI, 10, .inl zf))]) rfl ?_
  refine G_putF (ws' := [(h_m, .inr (6, [.ref q1, .ref q2, .ref q3, .int (0 : Int32), .int (0 : Int32), .ref q4, .int (0 : Int32), .ref q5, .null, .int (0 : Int32), .int (0 : Int32), .int (0 : Int32), .int (0 : Int32), .int (0 : Int32), .int (0 : Int32)])), (q1, .inl (cI, 116, .inl zf)), (q2, .inl (cI, 464, .inl zf)), (q3, .inl (cI, 116, .inl zf)), (q4, .inl (cI, 60, .inl zf)), (q5, .inl (cI, 10, .inl zf))]) (v := .ref q5) hc hin f_X6_22 pF_X6_7 0 rfl rfl rfl rfl rfl dX6_init_42 ?_
  refine G_aload_n hc dX6_init_45 rfl ?_
  refine G_bipush (v := 16) hc dX6_init_46 (by decide) ?_
  refine G_newarr hc aci (by decide) rfl rfl rfl rfl dX6_init_48 (c' := 6) (s' := 782) rfl rfl (fun q6 => ?_)
  refine G_ws (ws' := [(h_m, .inr (6, [.ref q1, .ref q2, .ref q3, .int (0 : Int32), .int (0 : Int32), .ref q4, .int (0 : Int32), .ref q5, .null, .int (0 : Int32), .int (0 : Int32), .int (0 : Int32), .int (0 : Int32), .int (0 : Int32), .int (0 : Int32)])), (q1, .inl (cI, 116, .inl zf)), (q2, .inl (cI, 464, .inl zf)), (q3, .inl (cI, 116, .inl zf)), (q4, .inl (cI, 60, .inl zf)), (q5, .inl (cI, 10, .inl zf)), (q6, .inl (cI, 16, .inl zf))]) rfl ?_
  refine G_putF (ws' := [(h_m, .inr (6, [.ref q1, .ref q2, .ref q3, .int (0 : Int32), .int (0 : Int32), .ref q4, .int (0 : Int32), .ref q5, .ref q6, .int (0 : Int32), .int (0 : Int32), .int (0 : Int32), .int (0 : Int32), .int (0 : Int32), .int (0 : Int32)])), (q1, .inl (cI, 116, .inl zf)), (q2, .inl (cI, 464, .inl zf)), (q3, .inl (cI, 116, .inl zf)), (q4, .inl (cI, 60, .inl zf)), (q5, .inl (cI, 10, .inl zf)), (q6, .inl (cI, 16, .inl zf))]) (v := .ref q6) hc hin f_X6_25 pF_X6_8 0 rfl rfl rfl rfl rfl dX6_init_50 ?_
  refine G_iconst (v := 0) hc dX6_init_53 (by decide) ?_
  refine G_istore_n (lv' := [(0, .ref h_m), (1, .int (0 : Int32))]) hc dX6_init_54 rfl rfl ?_
  refine G_iload_n hc dX6_init_55 rfl ?_
  refine G_bipush (v := 16) hc dX6_init_56 (by decide) ?_
  refine G_icmp_ge (tgt := 85) hc dX6_init_58 (by decide) (fun h => absurd h (by decide)) (fun _ => ?_)
  refine G_aload_n hc dX6_init_61 rfl ?_
  refine G_get hc f_X6_7 0 rfl rfl dX6_init_62 ?_
  refine G_bipush (v := 11) hc dX6_init_65 (by decide) ?_
  refine G_iload_n hc dX6_init_67 rfl ?_
  refine G_iadd hc dX6_init_68 ?_
  refine G_top (y := (11 : Int32)) (by decide) ?_
  refine G_iload_n hc dX6_init_69 rfl ?_
  refine G_iconst (v := 4) hc dX6_init_70 (by decide) ?_
  refine G_idiv hc dX6_init_71 (by decide) ?_
  refine G_top (y := (0 : Int32)) (by decide) ?_
  refine G_iload_n hc dX6_init_72 rfl ?_
  refine G_iconst (v := 4) hc dX6_init_73 (by decide) ?_
  refine G_irem hc dX6_init_74 (by decide) ?_
  refine G_top (y := (0 : Int32)) (by decide) ?_
  refine G_iadd hc dX6_init_75 ?_
  refine G_top (y := (0 : Int32)) (by decide) ?_
  refine G_iconst (v := 4) hc dX6_init_76 (by decide) ?_
  refine G_irem hc dX6_init_77 (by decide) ?_
  refine G_top (y := (0 : Int32)) (by decide) ?_
  obtain ⟨v7, i_v7, e_v7, h⟩ := wb h
  refine G_iast (ws' := [(h_m, .inr (6, [.ref q1, .ref q2, .ref q3, .int (0 : Int32), .int (0 : Int32), .ref q4, .int (0 : Int32), .ref q5, .ref q6, .int (0 : Int32), .int (0 : Int32), .int (0 : Int32), .int (0 : Int32), .int (0 : Int32), .int (0 : Int32)])), (q1, .inl (cI, 116, .inl v7)), (q2, .inl (cI, 464, .inl zf)), (q3, .inl (cI, 116, .inl zf)), (q4, .inl (cI, 60, .inl zf)), (q5, .inl (cI, 10, .inl zf)), (q6, .inl (cI, 16, .inl zf))]) hc 1 rfl i_v7 e_v7 rfl dX6_init_78 ?_
  refine G_iinc (v := (1 : Int32)) (lv' := [(0, .ref h_m), (1, .int (1 : Int32))]) hc dX6_init_79 rfl (by decide) rfl rfl ?_
  refine G_goto (tgt := 55) hc dX6_init_82 (by decide) ?_
  refine G_iload_n hc dX6_init_55 rfl ?_
  refine G_bipush (v := 16) hc dX6_init_56 (by decide) ?_
  refine G_icmp_ge (tgt := 85) hc dX6_init_58 (by decide) (fun h => absurd h (by decide)) (fun _ => ?_)
  refine G_aload_n hc dX6_init_61 rfl ?_
  refine G_get hc f_X6_7 0 rfl rfl dX6_init_62 ?_
  refine G_bipush (v := 11) hc dX6_init_65 (by decide) ?_
  refine G_iload_n hc dX6_init_67 rfl ?_
  refine G_iadd hc dX6_init_68 ?_
  refine G_top (y := (12 : Int32)) (by decide) ?_
  refine G_iload_n hc dX6_init_69 rfl ?_
  refine G_iconst (v := 4) hc dX6_init_70 (by decide) ?_
  refine G_idiv hc dX6_init_71 (by decide) ?_
  refine G_top (y := (0 : Int32)) (by decide) ?_
  refine G_iload_n hc dX6_init_72 rfl ?_
  refine G_iconst (v := 4) hc dX6_init_73 (by decide) ?_
  refine G_irem hc dX6_init_74 (by decide) ?_
  refine G_top (y := (1 : Int32)) (by decide) ?_
  refine G_iadd hc dX6_init_75 ?_
  refine G_top (y := (1 : Int32)) (by decide) ?_
  refine G_iconst (v := 4) hc dX6_init_76 (by decide) ?_
  refine G_irem hc dX6_init_77 (by decide) ?_
  refine G_top (y := (1 : Int32)) (by decide) ?_
  obtain ⟨v8, i_v8, e_v8, h⟩ := wb h
  refine G_iast (ws' := [(h_m, .inr (6, [.ref q1, .ref q2, .ref q3, .int (0 : Int32), .int (0 : Int32), .ref q4, .int (0 : Int32), .ref q5, .ref q6, .int (0 : Int32), .int (0 : Int32), .int (0 : Int32), .int (0 : Int32), .int (0 : Int32), .int (0 : Int32)])), (q1, .inl (cI, 116, .inl v8)), (q2, .inl (cI, 464, .inl zf)), (q3, .inl (cI, 116, .inl zf)), (q4, .inl (cI, 60, .inl zf)), (q5, .inl (cI, 10, .inl zf)), (q6, .inl (cI, 16, .inl zf))]) hc 1 rfl i_v8 e_v8 rfl dX6_init_78 ?_
  refine G_iinc (v := (2 : Int32)) (lv' := [(0, .ref h_m), (1, .int (2 : Int32))]) hc dX6_init_79 rfl (by decide) rfl rfl ?_
  refine G_goto (tgt := 55) hc dX6_init_82 (by decide) ?_
  refine G_iload_n hc dX6_init_55 rfl ?_
  refine G_bipush (v := 16) hc dX6_init_56 (by decide) ?_
  refine G_icmp_ge (tgt := 85) hc dX6_init_58 (by decide) (fun h => absurd h (by decide)) (fun _ => ?_)
  refine G_aload_n hc dX6_init_61 rfl ?_
  refine G_get hc f_X6_7 0 rfl rfl dX6_init_62 ?_
  refine G_bipush (v := 11) hc dX6_init_65 (by decide) ?_
  refine G_iload_n hc dX6_init_67 rfl ?_
  refine G_iadd hc dX6_init_68 ?_
  refine G_top (y := (13 : Int32)) (by decide) ?_
  refine G_iload_n hc dX6_init_69 rfl ?_
  refine G_iconst (v := 4) hc dX6_init_70 (by decide) ?_
  refine G_idiv hc dX6_init_71 (by decide) ?_
  refine G_top (y := (0 : Int32)) (by decide) ?_
  refine G_iload_n hc dX6_init_72 rfl ?_
  refine G_iconst (v := 4) hc dX6_init_73 (by decide) ?_
  refine G_irem hc dX6_init_74 (by decide) ?_
  refine G_top (y := (2 : Int32)) (by decide) ?_
  refine G_iadd hc dX6_init_75 ?_
  refine G_top (y := (2 : Int32)) (by decide) ?_
  refine G_iconst (v := 4) hc dX6_init_76 (by decide) ?_
  refine G_irem hc dX6_init_77 (by decide) ?_
  refine G_top (y := (2 : Int32)) (by decide) ?_
  obtain ⟨v9, i_v9, e_v9, h⟩ := wb h
  refine G_iast (ws' := [(h_m, .inr (6, [.ref q1, .ref q2, .ref q3, .int (0 : Int32), .int (0 : Int32), .ref q4, .int (0 : Int32), .ref q5, .ref q6, .int (0 : Int32), .int (0 : Int32), .int (0 : Int32), .int (0 : Int32), .int (0 : Int32), .int (0 : Int32)])), (q1, .inl (cI, 116, .inl v9)), (q2, .inl (cI, 464, .inl zf)), (q3, .inl (cI, 116, .inl zf)), (q4, .inl (cI, 60, .inl zf)), (q5, .inl (cI, 10, .inl zf)), (q6, .inl (cI, 16, .inl zf))]) hc 1 rfl i_v9 e_v9 rfl dX6_init_78 ?_
  refine G_iinc (v := (3 : Int32)) (lv' := [(0, .ref h_m), (1, .int (3 : Int32))]) hc dX6_init_79 rfl (by decide) rfl rfl ?_
  refine G_goto (tgt := 55) hc dX6_init_82 (by decide) ?_
  refine G_iload_n hc dX6_init_55 rfl ?_
  refine G_bipush (v := 16) hc dX6_init_56 (by decide) ?_
  refine G_icmp_ge (tgt := 85) hc dX6_init_58 (by decide) (fun h => absurd h (by decide)) (fun _ => ?_)
  refine G_aload_n hc dX6_init_61 rfl ?_
  refine G_get hc f_X6_7 0 rfl rfl dX6_init_62 ?_
  refine G_bipush (v := 11) hc dX6_init_65 (by decide) ?_
  refine G_iload_n hc dX6_init_67 rfl ?_
  refine G_iadd hc dX6_init_68 ?_
  refine G_top (y := (14 : Int32)) (by decide) ?_
  refine G_iload_n hc dX6_init_69 rfl ?_
  refine G_iconst (v := 4) hc dX6_init_70 (by decide) ?_
  refine G_idiv hc dX6_init_71 (by decide) ?_
  refine G_top (y := (0 : Int32)) (by decide) ?_
  refine G_iload_n hc dX6_init_72 rfl ?_
  refine G_iconst (v := 4) hc dX6_init_73 (by decide) ?_
  refine G_irem hc dX6_init_74 (by decide) ?_
  refine G_top (y := (3 : Int32)) (by decide) ?_
  refine G_iadd hc dX6_init_75 ?_
  refine G_top (y := (3 : Int32)) (by decide) ?_
  refine G_iconst (v := 4) hc dX6_init_76 (by decide) ?_
  refine G_irem hc dX6_init_77 (by decide) ?_
  refine G_top (y := (3 : Int32)) (by decide) ?_
  obtain ⟨v10, i_v10, e_v10, h⟩ := wb h
  refine G_iast (ws' := [(h_m, .inr (6, [.ref q1, .ref q2, .ref q3, .int (0 : Int32), .int (0 : Int32), .ref q4, .int (0 : Int32), .ref q5, .ref q6, .int (0 : Int32), .int (0 : Int32), .int (0 : Int32), .int (0 : Int32), .int (0 : Int32), .int (0 : Int32)])), (q1, .inl (cI, 116, .inl v10)), (q2, .inl (cI, 464, .inl zf)), (q3, .inl (cI, 116, .inl zf)), (q4, .inl (cI, 60, .inl zf)), (q5, .inl (cI, 10, .inl zf)), (q6, .inl (cI, 16, .inl zf))]) hc 1 rfl i_v10 e_v10 rfl dX6_init_78 ?_
  refine G_iinc (v := (4 : Int32)) (lv' := [(0, .ref h_m), (1, .int (4 : Int32))]) hc dX6_init_79 rfl (by decide) rfl rfl ?_
  refine G_goto (tgt := 55) hc dX6_init_82 (by decide) ?_
  refine G_iload_n hc dX6_init_55 rfl ?_
  refine G_bipush (v := 16) hc dX6_init_56 (by decide) ?_
  refine G_icmp_ge (tgt := 85) hc dX6_init_58 (by decide) (fun h => absurd h (by decide)) (fun _ => ?_)
  refine G_aload_n hc dX6_init_61 rfl ?_
  refine G_get hc f_X6_7 0 rfl rfl dX6_init_62 ?_
  refine G_bipush (v := 11) hc dX6_init_65 (by decide) ?_
  refine G_iload_n hc dX6_init_67 rfl ?_
  refine G_iadd hc dX6_init_68 ?_
  refine G_top (y := (15 : Int32)) (by decide) ?_
  refine G_iload_n hc dX6_init_69 rfl ?_
  refine G_iconst (v := 4) hc dX6_init_70 (by decide) ?_
  refine G_idiv hc dX6_init_71 (by decide) ?_
  refine G_top (y := (1 : Int32)) (by decide) ?_
  refine G_iload_n hc dX6_init_72 rfl ?_
  refine G_iconst (v := 4) hc dX6_init_73 (by decide) ?_
  refine G_irem hc dX6_init_74 (by decide) ?_
  refine G_top (y := (0 : Int32)) (by decide) ?_
  refine G_iadd hc dX6_init_75 ?_
  refine G_top (y := (1 : Int32)) (by decide) ?_
  refine G_iconst (v := 4) hc dX6_init_76 (by decide) ?_
  refine G_irem hc dX6_init_77 (by decide) ?_
  refine G_top (y := (1 : Int32)) (by decide) ?_
  obtain ⟨v11, i_v11, e_v11, h⟩ := wb h
  refine G_iast (ws' := [(h_m, .inr (6, [.ref q1, .ref q2, .ref q3, .int (0 : Int32), .int (0 : Int32), .ref q4, .int (0 : Int32), .ref q5, .ref q6, .int (0 : Int32), .int (0 : Int32), .int (0 : Int32), .int (0 : Int32), .int (0 : Int32), .int (0 : Int32)])), (q1, .inl (cI, 116, .inl v11)), (q2, .inl (cI, 464, .inl zf)), (q3, .inl (cI, 116, .inl zf)), (q4, .inl (cI, 60, .inl zf)), (q5, .inl (cI, 10, .inl zf)), (q6, .inl (cI, 16, .inl zf))]) hc 1 rfl i_v11 e_v11 rfl dX6_init_78 ?_
  refine G_iinc (v := (5 : Int32)) (lv' := [(0, .ref h_m), (1, .int (5 : Int32))]) hc dX6_init_79 rfl (by decide) rfl rfl ?_
  refine G_goto (tgt := 55) hc dX6_init_82 (by decide) ?_
  refine G_iload_n hc dX6_init_55 rfl ?_
  refine G_bipush (v := 16) hc dX6_init_56 (by decide) ?_
  refine G_icmp_ge (tgt := 85) hc dX6_init_58 (by decide) (fun h => absurd h (by decide)) (fun _ => ?_)
  refine G_aload_n hc dX6_init_61 rfl ?_
  refine G_get hc f_X6_7 0 rfl rfl dX6_init_62 ?_
  refine G_bipush (v := 11) hc dX6_init_65 (by decide) ?_
  refine G_iload_n hc dX6_init_67 rfl ?_
  refine G_iadd hc dX6_init_68 ?_
  refine G_top (y := (16 : Int32)) (by decide) ?_
  refine G_iload_n hc dX6_init_69 rfl ?_
  refine G_iconst (v := 4) hc dX6_init_70 (by decide) ?_
  refine G_idiv hc dX6_init_71 (by decide) ?_
  refine G_top (y := (1 : Int32)) (by decide) ?_
  refine G_iload_n hc dX6_init_72 rfl ?_
  refine G_iconst (v := 4) hc dX6_init_73 (by decide) ?_
  refine G_irem hc dX6_init_74 (by decide) ?_
  refine G_top (y := (1 : Int32)) (by decide) ?_
  refine G_iadd hc dX6_init_75 ?_
  refine G_top (y := (2 : Int32)) (by decide) ?_
  refine G_iconst (v := 4) hc dX6_init_76 (by decide) ?_
  refine G_irem hc dX6_init_77 (by decide) ?_
  refine G_top (y := (2 : Int32)) (by decide) ?_
  obtain ⟨v12, i_v12, e_v12, h⟩ := wb h
  refine G_iast (ws' := [(h_m, .inr (6, [.ref q1, .ref q2, .ref q3, .int (0 : Int32), .int (0 : Int32), .ref q4, .int (0 : Int32), .ref q5, .ref q6, .int (0 : Int32), .int (0 : Int32), .int (0 : Int32), .int (0 : Int32), .int (0 : Int32), .int (0 : Int32)])), (q1, .inl (cI, 116, .inl v12)), (q2, .inl (cI, 464, .inl zf)), (q3, .inl (cI, 116, .inl zf)), (q4, .inl (cI, 60, .inl zf)), (q5, .inl (cI, 10, .inl zf)), (q6, .inl (cI, 16, .inl zf))]) hc 1 rfl i_v12 e_v12 rfl dX6_init_78 ?_
  refine G_iinc (v := (6 : Int32)) (lv' := [(0, .ref h_m), (1, .int (6 : Int32))]) hc dX6_init_79 rfl (by decide) rfl rfl ?_
  refine G_goto (tgt := 55) hc dX6_init_82 (by decide) ?_
  refine G_iload_n hc dX6_init_55 rfl ?_
  refine G_bipush (v := 16) hc dX6_init_56 (by decide) ?_
  refine G_icmp_ge (tgt := 85) hc dX6_init_58 (by decide) (fun h => absurd h (by decide)) (fun _ => ?_)
  refine G_aload_n hc dX6_init_61 rfl ?_
  refine G_get hc f_X6_7 0 rfl rfl dX6_init_62 ?_
  refine G_bipush (v := 11) hc dX6_init_65 (by decide) ?_
  refine G_iload_n hc dX6_init_67 rfl ?_
  refine G_iadd hc dX6_init_68 ?_
  refine G_top (y := (17 : Int32)) (by decide) ?_
  refine G_iload_n hc dX6_init_69 rfl ?_
  refine G_iconst (v := 4) hc dX6_init_70 (by decide) ?_
  refine G_idiv hc dX6_init_71 (by decide) ?_
  refine G_top (y := (1 : Int32)) (by decide) ?_
  refine G_iload_n hc dX6_init_72 rfl ?_
  refine G_iconst (v := 4) hc dX6_init_73 (by decide) ?_
  refine G_irem hc dX6_init_74 (by decide) ?_
  refine G_top (y := (2 : Int32)) (by decide) ?_
  refine G_iadd hc dX6_init_75 ?_
  refine G_top (y := (3 : Int32)) (by decide) ?_
  refine G_iconst (v := 4) hc dX6_init_76 (by decide) ?_
  refine G_irem hc dX6_init_77 (by decide) ?_
  refine G_top (y := (3 : Int32)) (by decide) ?_
  obtain ⟨v13, i_v13, e_v13, h⟩ := wb h
  refine G_iast (ws' := [(h_m, .inr (6, [.ref q1, .ref q2, .ref q3, .int (0 : Int32), .int (0 : Int32), .ref q4, .int (0 : Int32), .ref q5, .ref q6, .int (0 : Int32), .int (0 : Int32), .int (0 : Int32), .int (0 : Int32), .int (0 : Int32), .int (0 : Int32)])), (q1, .inl (cI, 116, .inl v13)), (q2, .inl (cI, 464, .inl zf)), (q3, .inl (cI, 116, .inl zf)), (q4, .inl (cI, 60, .inl zf)), (q5, .inl (cI, 10, .inl zf)), (q6, .inl (cI, 16, .inl zf))]) hc 1 rfl i_v13 e_v13 rfl dX6_init_78 ?_
  refine G_iinc (v := (7 : Int32)) (lv' := [(0, .ref h_m), (1, .int (7 : Int32))]) hc dX6_init_79 rfl (by decide) rfl rfl ?_
  refine G_goto (tgt := 55) hc dX6_init_82 (by decide) ?_
  refine G_iload_n hc dX6_init_55 rfl ?_
  refine G_bipush (v := 16) hc dX6_init_56 (by decide) ?_
  refine G_icmp_ge (tgt := 85) hc dX6_init_58 (by decide) (fun h => absurd h (by decide)) (fun _ => ?_)
  refine G_aload_n hc dX6_init_61 rfl ?_
  refine G_get hc f_X6_7 0 rfl rfl dX6_init_62 ?_
  refine G_bipush (v := 11) hc dX6_init_65 (by decide) ?_
  refine G_iload_n hc dX6_init_67 rfl ?_
  refine G_iadd hc dX6_init_68 ?_
  refine G_top (y := (18 : Int32)) (by decide) ?_
  refine G_iload_n hc dX6_init_69 rfl ?_
  refine G_iconst (v := 4) hc dX6_init_70 (by decide) ?_
  refine G_idiv hc dX6_init_71 (by decide) ?_
  refine G_top (y := (1 : Int32)) (by decide) ?_
  refine G_iload_n hc dX6_init_72 rfl ?_
  refine G_iconst (v := 4) hc dX6_init_73 (by decide) ?_
  refine G_irem hc dX6_init_74 (by decide) ?_
  refine G_top (y := (3 : Int32)) (by decide) ?_
  refine G_iadd hc dX6_init_75 ?_
  refine G_top (y := (4 : Int32)) (by decide) ?_
  refine G_iconst (v := 4) hc dX6_init_76 (by decide) ?_
  refine G_irem hc dX6_init_77 (by decide) ?_
  refine G_top (y := (0 : Int32)) (by decide) ?_
  obtain ⟨v14, i_v14, e_v14, h⟩ := wb h
  refine G_iast (ws' := [(h_m, .inr (6, [.ref q1, .ref q2, .ref q3, .int (0 : Int32), .int (0 : Int32), .ref q4, .int (0 : Int32), .ref q5, .ref q6, .int (0 : Int32), .int (0 : Int32), .int (0 : Int32), .int (0 : Int32), .int (0 : Int32), .int (0 : Int32)])), (q1, .inl (cI, 116, .inl v14)), (q2, .inl (cI, 464, .inl zf)), (q3, .inl (cI, 116, .inl zf)), (q4, .inl (cI, 60, .inl zf)), (q5, .inl (cI, 10, .inl zf)), (q6, .inl (cI, 16, .inl zf))]) hc 1 rfl i_v14 e_v14 rfl dX6_init_78 ?_
  refine G_iinc (v := (8 : Int32)) (lv' := [(0, .ref h_m), (1, .int (8 : Int32))]) hc dX6_init_79 rfl (by decide) rfl rfl ?_
  refine G_goto (tgt := 55) hc dX6_init_82 (by decide) ?_
  refine G_iload_n hc dX6_init_55 rfl ?_
  refine G_bipush (v := 16) hc dX6_init_56 (by decide) ?_
  refine G_icmp_ge (tgt := 85) hc dX6_init_58 (by decide) (fun h => absurd h (by decide)) (fun _ => ?_)
  refine G_aload_n hc dX6_init_61 rfl ?_
  refine G_get hc f_X6_7 0 rfl rfl dX6_init_62 ?_
  refine G_bipush (v := 11) hc dX6_init_65 (by decide) ?_
  refine G_iload_n hc dX6_init_67 rfl ?_
  refine G_iadd hc dX6_init_68 ?_
  refine G_top (y := (19 : Int32)) (by decide) ?_
  refine G_iload_n hc dX6_init_69 rfl ?_
  refine G_iconst (v := 4) hc dX6_init_70 (by decide) ?_
  refine G_idiv hc dX6_init_71 (by decide) ?_
  refine G_top (y := (2 : Int32)) (by decide) ?_
  refine G_iload_n hc dX6_init_72 rfl ?_
  refine G_iconst (v := 4) hc dX6_init_73 (by decide) ?_
  refine G_irem hc dX6_init_74 (by decide) ?_
  refine G_top (y := (0 : Int32)) (by decide) ?_
  refine G_iadd hc dX6_init_75 ?_
  refine G_top (y := (2 : Int32)) (by decide) ?_
  refine G_iconst (v := 4) hc dX6_init_76 (by decide) ?_
  refine G_irem hc dX6_init_77 (by decide) ?_
  refine G_top (y := (2 : Int32)) (by decide) ?_
  obtain ⟨v15, i_v15, e_v15, h⟩ := wb h
  refine G_iast (ws' := [(h_m, .inr (6, [.ref q1, .ref q2, .ref q3, .int (0 : Int32), .int (0 : Int32), .ref q4, .int (0 : Int32), .ref q5, .ref q6, .int (0 : Int32), .int (0 : Int32), .int (0 : Int32), .int (0 : Int32), .int (0 : Int32), .int (0 : Int32)])), (q1, .inl (cI, 116, .inl v15)), (q2, .inl (cI, 464, .inl zf)), (q3, .inl (cI, 116, .inl zf)), (q4, .inl (cI, 60, .inl zf)), (q5, .inl (cI, 10, .inl zf)), (q6, .inl (cI, 16, .inl zf))]) hc 1 rfl i_v15 e_v15 rfl dX6_init_78 ?_
  refine G_iinc (v := (9 : Int32)) (lv' := [(0, .ref h_m), (1, .int (9 : Int32))]) hc dX6_init_79 rfl (by decide) rfl rfl ?_
  refine G_goto (tgt := 55) hc dX6_init_82 (by decide) ?_
  refine G_iload_n hc dX6_init_55 rfl ?_
  refine G_bipush (v := 16) hc dX6_init_56 (by decide) ?_
  refine G_icmp_ge (tgt := 85) hc dX6_init_58 (by decide) (fun h => absurd h (by decide)) (fun _ => ?_)
  refine G_aload_n hc dX6_init_61 rfl ?_
  refine G_get hc f_X6_7 0 rfl rfl dX6_init_62 ?_
  refine G_bipush (v := 11) hc dX6_init_65 (by decide) ?_
  refine G_iload_n hc dX6_init_67 rfl ?_
  refine G_iadd hc dX6_init_68 ?_
  refine G_top (y := (20 : Int32)) (by decide) ?_
  refine G_iload_n hc dX6_init_69 rfl ?_
  refine G_iconst (v := 4) hc dX6_init_70 (by decide) ?_
  refine G_idiv hc dX6_init_71 (by decide) ?_
  refine G_top (y := (2 : Int32)) (by decide) ?_
  refine G_iload_n hc dX6_init_72 rfl ?_
  refine G_iconst (v := 4) hc dX6_init_73 (by decide) ?_
  refine G_irem hc dX6_init_74 (by decide) ?_
  refine G_top (y := (1 : Int32)) (by decide) ?_
  refine G_iadd hc dX6_init_75 ?_
  refine G_top (y := (3 : Int32)) (by decide) ?_
  refine G_iconst (v := 4) hc dX6_init_76 (by decide) ?_
  refine G_irem hc dX6_init_77 (by decide) ?_
  refine G_top (y := (3 : Int32)) (by decide) ?_
  obtain ⟨v16, i_v16, e_v16, h⟩ := wb h
  refine G_iast (ws' := [(h_m, .inr (6, [.ref q1, .ref q2, .ref q3, .int (0 : Int32), .int (0 : Int32), .ref q4, .int (0 : Int32), .ref q5, .ref q6, .int (0 : Int32), .int (0 : Int32), .int (0 : Int32), .int (0 : Int32), .int (0 : Int32), .int (0 : Int32)])), (q1, .inl (cI, 116, .inl v16)), (q2, .inl (cI, 464, .inl zf)), (q3, .inl (cI, 116, .inl zf)), (q4, .inl (cI, 60, .inl zf)), (q5, .inl (cI, 10, .inl zf)), (q6, .inl (cI, 16, .inl zf))]) hc 1 rfl i_v16 e_v16 rfl dX6_init_78 ?_
  refine G_iinc (v := (10 : Int32)) (lv' := [(0, .ref h_m), (1, .int (10 : Int32))]) hc dX6_init_79 rfl (by decide) rfl rfl ?_
  refine G_goto (tgt := 55) hc dX6_init_82 (by decide) ?_
  refine G_iload_n hc dX6_init_55 rfl ?_
  refine G_bipush (v := 16) hc dX6_init_56 (by decide) ?_
  refine G_icmp_ge (tgt := 85) hc dX6_init_58 (by decide) (fun h => absurd h (by decide)) (fun _ => ?_)
  refine G_aload_n hc dX6_init_61 rfl ?_
  refine G_get hc f_X6_7 0 rfl rfl dX6_init_62 ?_
  refine G_bipush (v := 11) hc dX6_init_65 (by decide) ?_
  refine G_iload_n hc dX6_init_67 rfl ?_
  refine G_iadd hc dX6_init_68 ?_
  refine G_top (y := (21 : Int32)) (by decide) ?_
  refine G_iload_n hc dX6_init_69 rfl ?_
  refine G_iconst (v := 4) hc dX6_init_70 (by decide) ?_
  refine G_idiv hc dX6_init_71 (by decide) ?_
  refine G_top (y := (2 : Int32)) (by decide) ?_
  refine G_iload_n hc dX6_init_72 rfl ?_
  refine G_iconst (v := 4) hc dX6_init_73 (by decide) ?_
  refine G_irem hc dX6_init_74 (by decide) ?_
  refine G_top (y := (2 : Int32)) (by decide) ?_
  refine G_iadd hc dX6_init_75 ?_
  refine G_top (y := (4 : Int32)) (by decide) ?_
  refine G_iconst (v := 4) hc dX6_init_76 (by decide) ?_
  refine G_irem hc dX6_init_77 (by decide) ?_
  refine G_top (y := (0 : Int32)) (by decide) ?_
  obtain ⟨v17, i_v17, e_v17, h⟩ := wb h
  refine G_iast (ws' := [(h_m, .inr (6, [.ref q1, .ref q2, .ref q3, .int (0 : Int32), .int (0 : Int32), .ref q4, .int (0 : Int32), .ref q5, .ref q6, .int (0 : Int32), .int (0 : Int32), .int (0 : Int32), .int (0 : Int32), .int (0 : Int32), .int (0 : Int32)])), (q1, .inl (cI, 116, .inl v17)), (q2, .inl (cI, 464, .inl zf)), (q3, .inl (cI, 116, .inl zf)), (q4, .inl (cI, 60, .inl zf)), (q5, .inl (cI, 10, .inl zf)), (q6, .inl (cI, 16, .inl zf))]) hc 1 rfl i_v17 e_v17 rfl dX6_init_78 ?_
  refine G_iinc (v := (11 : Int32)) (lv' := [(0, .ref h_m), (1, .int (11 : Int32))]) hc dX6_init_79 rfl (by decide) rfl rfl ?_
  refine G_goto (tgt := 55) hc dX6_init_82 (by decide) ?_
  refine G_iload_n hc dX6_init_55 rfl ?_
  refine G_bipush (v := 16) hc dX6_init_56 (by decide) ?_
  refine G_icmp_ge (tgt := 85) hc dX6_init_58 (by decide) (fun h => absurd h (by decide)) (fun _ => ?_)
  refine G_aload_n hc dX6_init_61 rfl ?_
  refine G_get hc f_X6_7 0 rfl rfl dX6_init_62 ?_
  refine G_bipush (v := 11) hc dX6_init_65 (by decide) ?_
  refine G_iload_n hc dX6_init_67 rfl ?_
  refine G_iadd hc dX6_init_68 ?_
  refine G_top (y := (22 : Int32)) (by decide) ?_
  refine G_iload_n hc dX6_init_69 rfl ?_
  refine G_iconst (v := 4) hc dX6_init_70 (by decide) ?_
  refine G_idiv hc dX6_init_71 (by decide) ?_
  refine G_top (y := (2 : Int32)) (by decide) ?_
  refine G_iload_n hc dX6_init_72 rfl ?_
  refine G_iconst (v := 4) hc dX6_init_73 (by decide) ?_
  refine G_irem hc dX6_init_74 (by decide) ?_
  refine G_top (y := (3 : Int32)) (by decide) ?_
  refine G_iadd hc dX6_init_75 ?_
  refine G_top (y := (5 : Int32)) (by decide) ?_
  refine G_iconst (v := 4) hc dX6_init_76 (by decide) ?_
  refine G_irem hc dX6_init_77 (by decide) ?_
  refine G_top (y := (1 : Int32)) (by decide) ?_
  obtain ⟨v18, i_v18, e_v18, h⟩ := wb h
  refine G_iast (ws' := [(h_m, .inr (6, [.ref q1, .ref q2, .ref q3, .int (0 : Int32), .int (0 : Int32), .ref q4, .int (0 : Int32), .ref q5, .ref q6, .int (0 : Int32), .int (0 : Int32), .int (0 : Int32), .int (0 : Int32), .int (0 : Int32), .int (0 : Int32)])), (q1, .inl (cI, 116, .inl v18)), (q2, .inl (cI, 464, .inl zf)), (q3, .inl (cI, 116, .inl zf)), (q4, .inl (cI, 60, .inl zf)), (q5, .inl (cI, 10, .inl zf)), (q6, .inl (cI, 16, .inl zf))]) hc 1 rfl i_v18 e_v18 rfl dX6_init_78 ?_
  refine G_iinc (v := (12 : Int32)) (lv' := [(0, .ref h_m), (1, .int (12 : Int32))]) hc dX6_init_79 rfl (by decide) rfl rfl ?_
  refine G_goto (tgt := 55) hc dX6_init_82 (by decide) ?_
  refine G_iload_n hc dX6_init_55 rfl ?_
  refine G_bipush (v := 16) hc dX6_init_56 (by decide) ?_
  refine G_icmp_ge (tgt := 85) hc dX6_init_58 (by decide) (fun h => absurd h (by decide)) (fun _ => ?_)
  refine G_aload_n hc dX6_init_61 rfl ?_
  refine G_get hc f_X6_7 0 rfl rfl dX6_init_62 ?_
  refine G_bipush (v := 11) hc dX6_init_65 (by decide) ?_
  refine G_iload_n hc dX6_init_67 rfl ?_
  refine G_iadd hc dX6_init_68 ?_
  refine G_top (y := (23 : Int32)) (by decide) ?_
  refine G_iload_n hc dX6_init_69 rfl ?_
  refine G_iconst (v := 4) hc dX6_init_70 (by decide) ?_
  refine G_idiv hc dX6_init_71 (by decide) ?_
  refine G_top (y := (3 : Int32)) (by decide) ?_
  refine G_iload_n hc dX6_init_72 rfl ?_
  refine G_iconst (v := 4) hc dX6_init_73 (by decide) ?_
  refine G_irem hc dX6_init_74 (by decide) ?_
  refine G_top (y := (0 : Int32)) (by decide) ?_
  refine G_iadd hc dX6_init_75 ?_
  refine G_top (y := (3 : Int32)) (by decide) ?_
  refine G_iconst (v := 4) hc dX6_init_76 (by decide) ?_
  refine G_irem hc dX6_init_77 (by decide) ?_
  refine G_top (y := (3 : Int32)) (by decide) ?_
  obtain ⟨v19, i_v19, e_v19, h⟩ := wb h
  refine G_iast (ws' := [(h_m, .inr (6, [.ref q1, .ref q2, .ref q3, .int (0 : Int32), .int (0 : Int32), .ref q4, .int (0 : Int32), .ref q5, .ref q6, .int (0 : Int32), .int (0 : Int32), .int (0 : Int32), .int (0 : Int32), .int (0 : Int32), .int (0 : Int32)])), (q1, .inl (cI, 116, .inl v19)), (q2, .inl (cI, 464, .inl zf)), (q3, .inl (cI, 116, .inl zf)), (q4, .inl (cI, 60, .inl zf)), (q5, .inl (cI, 10, .inl zf)), (q6, .inl (cI, 16, .inl zf))]) hc 1 rfl i_v19 e_v19 rfl dX6_init_78 ?_
  refine G_iinc (v := (13 : Int32)) (lv' := [(0, .ref h_m), (1, .int (13 : Int32))]) hc dX6_init_79 rfl (by decide) rfl rfl ?_
  refine G_goto (tgt := 55) hc dX6_init_82 (by decide) ?_
  refine G_iload_n hc dX6_init_55 rfl ?_
  refine G_bipush (v := 16) hc dX6_init_56 (by decide) ?_
  refine G_icmp_ge (tgt := 85) hc dX6_init_58 (by decide) (fun h => absurd h (by decide)) (fun _ => ?_)
  refine G_aload_n hc dX6_init_61 rfl ?_
  refine G_get hc f_X6_7 0 rfl rfl dX6_init_62 ?_
  refine G_bipush (v := 11) hc dX6_init_65 (by decide) ?_
  refine G_iload_n hc dX6_init_67 rfl ?_
  refine G_iadd hc dX6_init_68 ?_
  refine G_top (y := (24 : Int32)) (by decide) ?_
  refine G_iload_n hc dX6_init_69 rfl ?_
  refine G_iconst (v := 4) hc dX6_init_70 (by decide) ?_
  refine G_idiv hc dX6_init_71 (by decide) ?_
  refine G_top (y := (3 : Int32)) (by decide) ?_
  refine G_iload_n hc dX6_init_72 rfl ?_
  refine G_iconst (v := 4) hc dX6_init_73 (by decide) ?_
  refine G_irem hc dX6_init_74 (by decide) ?_
  refine G_top (y := (1 : Int32)) (by decide) ?_
  refine G_iadd hc dX6_init_75 ?_
  refine G_top (y := (4 : Int32)) (by decide) ?_
  refine G_iconst (v := 4) hc dX6_init_76 (by decide) ?_
  refine G_irem hc dX6_init_77 (by decide) ?_
  refine G_top (y := (0 : Int32)) (by decide) ?_
  obtain ⟨v20, i_v20, e_v20, h⟩ := wb h
  refine G_iast (ws' := [(h_m, .inr (6, [.ref q1, .ref q2, .ref q3, .int (0 : Int32), .int (0 : Int32), .ref q4, .int (0 : Int32), .ref q5, .ref q6, .int (0 : Int32), .int (0 : Int32), .int (0 : Int32), .int (0 : Int32), .int (0 : Int32), .int (0 : Int32)])), (q1, .inl (cI, 116, .inl v20)), (q2, .inl (cI, 464, .inl zf)), (q3, .inl (cI, 116, .inl zf)), (q4, .inl (cI, 60, .inl zf)), (q5, .inl (cI, 10, .inl zf)), (q6, .inl (cI, 16, .inl zf))]) hc 1 rfl i_v20 e_v20 rfl dX6_init_78 ?_
  refine G_iinc (v := (14 : Int32)) (lv' := [(0, .ref h_m), (1, .int (14 : Int32))]) hc dX6_init_79 rfl (by decide) rfl rfl ?_
  refine G_goto (tgt := 55) hc dX6_init_82 (by decide) ?_
  refine G_iload_n hc dX6_init_55 rfl ?_
  refine G_bipush (v := 16) hc dX6_init_56 (by decide) ?_
  refine G_icmp_ge (tgt := 85) hc dX6_init_58 (by decide) (fun h => absurd h (by decide)) (fun _ => ?_)
  refine G_aload_n hc dX6_init_61 rfl ?_
  refine G_get hc f_X6_7 0 rfl rfl dX6_init_62 ?_
  refine G_bipush (v := 11) hc dX6_init_65 (by decide) ?_
  refine G_iload_n hc dX6_init_67 rfl ?_
  refine G_iadd hc dX6_init_68 ?_
  refine G_top (y := (25 : Int32)) (by decide) ?_
  refine G_iload_n hc dX6_init_69 rfl ?_
  refine G_iconst (v := 4) hc dX6_init_70 (by decide) ?_
  refine G_idiv hc dX6_init_71 (by decide) ?_
  refine G_top (y := (3 : Int32)) (by decide) ?_
  refine G_iload_n hc dX6_init_72 rfl ?_
  refine G_iconst (v := 4) hc dX6_init_73 (by decide) ?_
  refine G_irem hc dX6_init_74 (by decide) ?_
  refine G_top (y := (2 : Int32)) (by decide) ?_
  refine G_iadd hc dX6_init_75 ?_
  refine G_top (y := (5 : Int32)) (by decide) ?_
  refine G_iconst (v := 4) hc dX6_init_76 (by decide) ?_
  refine G_irem hc dX6_init_77 (by decide) ?_
  refine G_top (y := (1 : Int32)) (by decide) ?_
  obtain ⟨v21, i_v21, e_v21, h⟩ := wb h
  refine G_iast (ws' := [(h_m, .inr (6, [.ref q1, .ref q2, .ref q3, .int (0 : Int32), .int (0 : Int32), .ref q4, .int (0 : Int32), .ref q5, .ref q6, .int (0 : Int32), .int (0 : Int32), .int (0 : Int32), .int (0 : Int32), .int (0 : Int32), .int (0 : Int32)])), (q1, .inl (cI, 116, .inl v21)), (q2, .inl (cI, 464, .inl zf)), (q3, .inl (cI, 116, .inl zf)), (q4, .inl (cI, 60, .inl zf)), (q5, .inl (cI, 10, .inl zf)), (q6, .inl (cI, 16, .inl zf))]) hc 1 rfl i_v21 e_v21 rfl dX6_init_78 ?_
  refine G_iinc (v := (15 : Int32)) (lv' := [(0, .ref h_m), (1, .int (15 : Int32))]) hc dX6_init_79 rfl (by decide) rfl rfl ?_
  refine G_goto (tgt := 55) hc dX6_init_82 (by decide) ?_
  refine G_iload_n hc dX6_init_55 rfl ?_
  refine G_bipush (v := 16) hc dX6_init_56 (by decide) ?_
  refine G_icmp_ge (tgt := 85) hc dX6_init_58 (by decide) (fun h => absurd h (by decide)) (fun _ => ?_)
  refine G_aload_n hc dX6_init_61 rfl ?_
  refine G_get hc f_X6_7 0 rfl rfl dX6_init_62 ?_
  refine G_bipush (v := 11) hc dX6_init_65 (by decide) ?_
  refine G_iload_n hc dX6_init_67 rfl ?_
  refine G_iadd hc dX6_init_68 ?_
  refine G_top (y := (26 : Int32)) (by decide) ?_
  refine G_iload_n hc dX6_init_69 rfl ?_
  refine G_iconst (v := 4) hc dX6_init_70 (by decide) ?_
  refine G_idiv hc dX6_init_71 (by decide) ?_
  refine G_top (y := (3 : Int32)) (by decide) ?_
  refine G_iload_n hc dX6_init_72 rfl ?_
  refine G_iconst (v := 4) hc dX6_init_73 (by decide) ?_
  refine G_irem hc dX6_init_74 (by decide) ?_
  refine G_top (y := (3 : Int32)) (by decide) ?_
  refine G_iadd hc dX6_init_75 ?_
  refine G_top (y := (6 : Int32)) (by decide) ?_
  refine G_iconst (v := 4) hc dX6_init_76 (by decide) ?_
  refine G_irem hc dX6_init_77 (by decide) ?_
  refine G_top (y := (2 : Int32)) (by decide) ?_
  obtain ⟨v22, i_v22, e_v22, h⟩ := wb h
  refine G_iast (ws' := [(h_m, .inr (6, [.ref q1, .ref q2, .ref q3, .int (0 : Int32), .int (0 : Int32), .ref q4, .int (0 : Int32), .ref q5, .ref q6, .int (0 : Int32), .int (0 : Int32), .int (0 : Int32), .int (0 : Int32), .int (0 : Int32), .int (0 : Int32)])), (q1, .inl (cI, 116, .inl v22)), (q2, .inl (cI, 464, .inl zf)), (q3, .inl (cI, 116, .inl zf)), (q4, .inl (cI, 60, .inl zf)), (q5, .inl (cI, 10, .inl zf)), (q6, .inl (cI, 16, .inl zf))]) hc 1 rfl i_v22 e_v22 rfl dX6_init_78 ?_
  refine G_iinc (v := (16 : Int32)) (lv' := [(0, .ref h_m), (1, .int (16 : Int32))]) hc dX6_init_79 rfl (by decide) rfl rfl ?_
  refine G_goto (tgt := 55) hc dX6_init_82 (by decide) ?_
  refine G_iload_n hc dX6_init_55 rfl ?_
  refine G_bipush (v := 16) hc dX6_init_56 (by decide) ?_
  refine G_icmp_ge (tgt := 85) hc dX6_init_58 (by decide) (fun _ => ?_) (fun h => absurd (by decide) h)
  have h := Option.some.inj h
  subst h
  exact G_creturn hc ⟨_, _, _, _, _, _, rfl⟩ dX6_init_85
