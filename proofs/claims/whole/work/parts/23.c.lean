set_option maxHeartbeats 4000000 in
set_option maxRecDepth 100000 in
theorem c_X6_keep (l : Launch) (D : va_G) (cI cS : ClassId) (X : XP) (F : Nat) (h_m h_m_s h_m_past h_m_held h_m_text h_m_now h_m_kept : Nat) (m_pasts : Int32) (m_runs0 : Int32) (m_typed : Int32) (m_spot : Int32) (m_reason : Int32) (m_cause : Int32) (m_orders : Int32) (m_kindNow : Int32) (m_placeNow : Int32) (m_s : Nat → Int32) (m_past : Nat → Int32) (m_held : Nat → Int32) (m_text : Nat → Int32) (m_now : Nat → Int32) (m_kept : Nat → Int32) {res : Int32 × Int32 × (Nat → Int32) × (Nat → Int32)} (h : f_X6_keep F m_pasts m_runs0 m_s m_past = some res) : CtI l D cI cS X yX6_keep cX6_keep 3 (some .int) 2 [.ref h_m] [(h_m, .inr (6, [.ref h_m_s, .ref h_m_past, .ref h_m_held, .int m_pasts, .int m_runs0, .ref h_m_text, .int m_typed, .ref h_m_now, .ref h_m_kept, .int m_spot, .int m_reason, .int m_cause, .int m_orders, .int m_kindNow, .int m_placeNow])), (h_m_s, .inl (cI, 116, .inl m_s)), (h_m_past, .inl (cI, 464, .inl m_past)), (h_m_held, .inl (cI, 116, .inl m_held)), (h_m_text, .inl (cI, 60, .inl m_text)), (h_m_now, .inl (cI, 10, .inl m_now)), (h_m_kept, .inl (cI, 16, .inl m_kept))] (PoI res.1 [(h_m, .inr (6, [.ref h_m_s, .ref h_m_past, .ref h_m_held, .int res.2.1, .int m_runs0, .ref h_m_text, .int m_typed, .ref h_m_now, .ref h_m_kept, .int m_spot, .int m_reason, .int m_cause, .int m_orders, .int m_kindNow, .int m_placeNow])), (h_m_s, .inl (cI, 116, .inl res.2.2.1)), (h_m_past, .inl (cI, 464, .inl res.2.2.2)), (h_m_held, .inl (cI, 116, .inl m_held)), (h_m_text, .inl (cI, 60, .inl m_text)), (h_m_now, .inl (cI, 10, .inl m_now)), (h_m_kept, .inl (cI, 16, .inl m_kept))]) := by
  refine CtI.of (by decide +kernel) rfl ?_
  intro p e s m below meth c A hc
  refine G_lv (lv' := [(0, .ref h_m)]) (lsame_cons rfl lsame_nil) ?_
  unfold f_X6_keep at h
  refine G_aload_n hc dX6_keep_0 rfl ?_
  refine G_get hc f_X6_7 0 rfl rfl dX6_keep_1 ?_
  refine G_iconst (v := 0) hc dX6_keep_4 (by decide) ?_
  obtain ⟨v1, i_v1, e_v1, h⟩ := rb h
  refine G_iald hc 1 rfl i_v1 e_v1 dX6_keep_5 ?_
  refine G_if_ne (tgt := 12) hc dX6_keep_6 (by decide) (fun c23 => ?_) (fun c23 => ?_)
  · have h := inn h c23
    refine G_aload_n hc dX6_keep_12 rfl ?_
    refine G_get hc f_X6_7 0 rfl rfl dX6_keep_13 ?_
    refine G_bipush (v := 27) hc dX6_keep_16 (by decide) ?_
    obtain ⟨v2, i_v2, e_v2, h⟩ := rb h
    refine G_iald hc 1 rfl i_v2 e_v2 dX6_keep_18 ?_
    refine G_bipush (v := 8) hc dX6_keep_19 (by decide) ?_
    refine G_icmp_ne (tgt := 27) hc dX6_keep_21 (by decide) (fun c22 => ?_) (fun c22 => ?_)
    · have h := inn h c22
      refine G_aload_n hc dX6_keep_27 rfl ?_
      obtain ⟨z3, hu4, h⟩ := ob h
      refine G_callVV (ws2 := [(h_m, .inr (6, [.ref h_m_s, .ref h_m_past, .ref h_m_held, .int z3.1, .int m_runs0, .ref h_m_text, .int m_typed, .ref h_m_now, .ref h_m_kept, .int m_spot, .int m_reason, .int m_cause, .int m_orders, .int m_kindNow, .int m_placeNow])), (h_m_s, .inl (cI, 116, .inl m_s)), (h_m_past, .inl (cI, 464, .inl z3.2)), (h_m_held, .inl (cI, 116, .inl m_held)), (h_m_text, .inl (cI, 60, .inl m_text)), (h_m_now, .inl (cI, 10, .inl m_now)), (h_m_kept, .inl (cI, 16, .inl m_kept))]) hc m_X6_46 (c_X6_changes l D cI cS X F h_m h_m_s h_m_past h_m_held h_m_text h_m_now h_m_kept m_pasts m_runs0 m_typed m_spot m_reason m_cause m_orders m_kindNow m_placeNow m_s m_past m_held m_text m_now m_kept hu4) 0 [0, 1, 2, 3, 4, 5, 6] rfl rfl (rmok_of (Nat.le_of_ble_eq_true rfl)) ⟨Nat.zero_le _, Nat.zero_le _⟩ rfl rfl rfl rfl rfl ⟨rfl, rfl, rfl⟩ dX6_keep_28 ?_
      refine G_bipush (v := 28) hc dX6_keep_31 (by decide) ?_
      refine G_bipush (v := 11) hc dX6_keep_33 (by decide) ?_
      refine G_aload_n hc dX6_keep_35 rfl ?_
      refine G_get hc f_X6_7 0 rfl rfl dX6_keep_36 ?_
      refine G_bipush (v := 27) hc dX6_keep_39 (by decide) ?_
      obtain ⟨v5, i_v5, e_v5, h⟩ := rb h
      refine G_iald hc 1 rfl i_v5 e_v5 dX6_keep_41 ?_
      refine G_imul hc dX6_keep_42 ?_
      refine G_iadd hc dX6_keep_43 ?_
      obtain ⟨v6, e_v6, h⟩ := sb h
      refine G_top e_v6 ?_
      refine G_istore_n (lv' := [(0, .ref h_m), (1, .int v6)]) hc dX6_keep_44 rfl rfl ?_
      refine G_iconst (v := 0) hc dX6_keep_45 (by decide) ?_
      refine G_istore_n (lv' := [(0, .ref h_m), (1, .int v6), (2, .int (0 : Int32))]) hc dX6_keep_46 rfl rfl ?_
      obtain ⟨e9, hl10, h⟩ := ob h
      have hK14 : G p l e (rmk 2) s m [.ref h_m].toArray below meth c D A 3 0 0 (QI below [.ref h_m].toArray s D A (PoI res.1 [(h_m, .inr (6, [.ref h_m_s, .ref h_m_past, .ref h_m_held, .int res.2.1, .int m_runs0, .ref h_m_text, .int m_typed, .ref h_m_now, .ref h_m_kept, .int m_spot, .int m_reason, .int m_cause, .int m_orders, .int m_kindNow, .int m_placeNow])), (h_m_s, .inl (cI, 116, .inl res.2.2.1)), (h_m_past, .inl (cI, 464, .inl res.2.2.2)), (h_m_held, .inl (cI, 116, .inl m_held)), (h_m_text, .inl (cI, 60, .inl m_text)), (h_m_now, .inl (cI, 10, .inl m_now)), (h_m_kept, .inl (cI, 16, .inl m_kept))])) [(h_m, .inr (6, [.ref h_m_s, .ref h_m_past, .ref h_m_held, .int z3.1, .int m_runs0, .ref h_m_text, .int m_typed, .ref h_m_now, .ref h_m_kept, .int m_spot, .int m_reason, .int m_cause, .int m_orders, .int m_kindNow, .int m_placeNow])), (h_m_s, .inl (cI, 116, .inl e9)), (h_m_past, .inl (cI, 464, .inl z3.2)), (h_m_held, .inl (cI, 116, .inl m_held)), (h_m_text, .inl (cI, 60, .inl m_text)), (h_m_now, .inl (cI, 10, .inl m_now)), (h_m_kept, .inl (cI, 16, .inl m_kept))] [(0, .ref h_m)] 75 [] := by
        refine G_aload_n hc dX6_keep_75 rfl ?_
        refine G_get hc f_X6_7 0 rfl rfl dX6_keep_76 ?_
        refine G_bipush (v := 27) hc dX6_keep_79 (by decide) ?_
        refine G_dup2 hc dX6_keep_81 rfl rfl ?_
        obtain ⟨v19, i_v19, e_v19, h⟩ := rb h
        refine G_iald hc 1 rfl i_v19 e_v19 dX6_keep_82 ?_
        refine G_iconst (v := 1) hc dX6_keep_83 (by decide) ?_
        refine G_iadd hc dX6_keep_84 ?_
        obtain ⟨v20, i_v20, e_v20, h⟩ := wb h
        refine G_iast (ws' := [(h_m, .inr (6, [.ref h_m_s, .ref h_m_past, .ref h_m_held, .int z3.1, .int m_runs0, .ref h_m_text, .int m_typed, .ref h_m_now, .ref h_m_kept, .int m_spot, .int m_reason, .int m_cause, .int m_orders, .int m_kindNow, .int m_placeNow])), (h_m_s, .inl (cI, 116, .inl v20)), (h_m_past, .inl (cI, 464, .inl z3.2)), (h_m_held, .inl (cI, 116, .inl m_held)), (h_m_text, .inl (cI, 60, .inl m_text)), (h_m_now, .inl (cI, 10, .inl m_now)), (h_m_kept, .inl (cI, 16, .inl m_kept))]) hc 1 rfl i_v20 e_v20 rfl dX6_keep_85 ?_
        refine G_aload_n hc dX6_keep_86 rfl ?_
        refine G_get hc f_X6_7 0 rfl rfl dX6_keep_87 ?_
        refine G_bipush (v := 27) hc dX6_keep_90 (by decide) ?_
        obtain ⟨v21, i_v21, e_v21, h⟩ := rb h
        refine G_iald hc 1 rfl i_v21 e_v21 dX6_keep_92 ?_
        have h := Option.some.inj h
        subst h
        exact G_ireturn hc ⟨rfl, rfl⟩ dX6_keep_93
      clear h
      have hL11 : ∀ (n12 : Nat) (u7 : Int32) (u8 : Nat → Int32), f_X6_keep_L47 F v6 n12 u7 u8 = some e9 → G p l e (rmk 2) s m [.ref h_m].toArray below meth c D A 3 0 0 (QI below [.ref h_m].toArray s D A (PoI res.1 [(h_m, .inr (6, [.ref h_m_s, .ref h_m_past, .ref h_m_held, .int res.2.1, .int m_runs0, .ref h_m_text, .int m_typed, .ref h_m_now, .ref h_m_kept, .int m_spot, .int m_reason, .int m_cause, .int m_orders, .int m_kindNow, .int m_placeNow])), (h_m_s, .inl (cI, 116, .inl res.2.2.1)), (h_m_past, .inl (cI, 464, .inl res.2.2.2)), (h_m_held, .inl (cI, 116, .inl m_held)), (h_m_text, .inl (cI, 60, .inl m_text)), (h_m_now, .inl (cI, 10, .inl m_now)), (h_m_kept, .inl (cI, 16, .inl m_kept))])) [(h_m, .inr (6, [.ref h_m_s, .ref h_m_past, .ref h_m_held, .int z3.1, .int m_runs0, .ref h_m_text, .int m_typed, .ref h_m_now, .ref h_m_kept, .int m_spot, .int m_reason, .int m_cause, .int m_orders, .int m_kindNow, .int m_placeNow])), (h_m_s, .inl (cI, 116, .inl u8)), (h_m_past, .inl (cI, 464, .inl z3.2)), (h_m_held, .inl (cI, 116, .inl m_held)), (h_m_text, .inl (cI, 60, .inl m_text)), (h_m_now, .inl (cI, 10, .inl m_now)), (h_m_kept, .inl (cI, 16, .inl m_kept))] [(0, .ref h_m), (1, .int v6), (2, .int u7)] 47 [] := by
        intro n12
        induction n12 with
        | zero =>
          intro u7 u8 h
          exact nz h
        | succ n12 ih13 =>
          intro u7 u8 h
          rw [f_X6_keep_L47] at h
          refine G_iload_n hc dX6_keep_47 rfl ?_
          refine G_bipush (v := 11) hc dX6_keep_48 (by decide) ?_
          refine G_icmp_ge (tgt := 75) hc dX6_keep_50 (by decide) (fun c18 => ?_) (fun c18 => ?_)
          · have h := ip h c18
            have h := Option.some.inj h
            subst h
            refine G_lv (lv' := [(0, .ref h_m)]) (lsame_cons rfl lsame_nil) ?_
            exact hK14
          · have h := inn h c18
            refine G_aload_n hc dX6_keep_53 rfl ?_
            refine G_get hc f_X6_7 0 rfl rfl dX6_keep_54 ?_
            refine G_iload_n hc dX6_keep_57 rfl ?_
            refine G_iload_n hc dX6_keep_58 rfl ?_
            refine G_iadd hc dX6_keep_59 ?_
            refine G_aload_n hc dX6_keep_60 rfl ?_
            refine G_get hc f_X6_7 0 rfl rfl dX6_keep_61 ?_
            refine G_iconst (v := 0) hc dX6_keep_64 (by decide) ?_
            refine G_iload_n hc dX6_keep_65 rfl ?_
            refine G_iadd hc dX6_keep_66 ?_
            obtain ⟨v15, i_v15, e_v15, h⟩ := rb h
            refine G_iald hc 1 rfl i_v15 e_v15 dX6_keep_67 ?_
            obtain ⟨v16, i_v16, e_v16, h⟩ := wb h
            refine G_iast (ws' := [(h_m, .inr (6, [.ref h_m_s, .ref h_m_past, .ref h_m_held, .int z3.1, .int m_runs0, .ref h_m_text, .int m_typed, .ref h_m_now, .ref h_m_kept, .int m_spot, .int m_reason, .int m_cause, .int m_orders, .int m_kindNow, .int m_placeNow])), (h_m_s, .inl (cI, 116, .inl v16)), (h_m_past, .inl (cI, 464, .inl z3.2)), (h_m_held, .inl (cI, 116, .inl m_held)), (h_m_text, .inl (cI, 60, .inl m_text)), (h_m_now, .inl (cI, 10, .inl m_now)), (h_m_kept, .inl (cI, 16, .inl m_kept))]) hc 1 rfl i_v16 e_v16 rfl dX6_keep_68 ?_
            obtain ⟨v17, e_v17, h⟩ := sb h
            refine G_iinc (v := v17) (lv' := [(0, .ref h_m), (1, .int v6), (2, .int v17)]) hc dX6_keep_69 rfl (e_v17.trans rfl) rfl rfl ?_
            refine G_goto (tgt := 47) hc dX6_keep_72 (by decide) ?_
            refine G_lv (lv' := [(0, .ref h_m), (1, .int v6), (2, .int v17)]) (lsame_cons rfl (lsame_cons rfl (lsame_cons rfl lsame_nil))) ?_
            exact ih13 _ _ h
      refine G_lv (lv' := [(0, .ref h_m), (1, .int v6), (2, .int (0 : Int32))]) (lsame_cons rfl (lsame_cons rfl (lsame_cons rfl lsame_nil))) ?_
      exact hL11 F _ _ hl10
    · have h := ip h c22
      refine G_ldc (v := -1000003) hc k_X6_45 dX6_keep_24 ?_
      have h := Option.some.inj h
      subst h
      exact G_ireturn hc ⟨rfl, rfl⟩ dX6_keep_26
  · have h := ip h c23
    refine G_ldc (v := -1000002) hc k_X6_49 dX6_keep_9 ?_
    have h := Option.some.inj h
    subst h
    exact G_ireturn hc ⟨rfl, rfl⟩ dX6_keep_11
set_option maxHeartbeats 4000000 in
set_option maxRecDepth 100000 in
theorem c_X6_recall (l : Launch) (D : va_G) (cI cS : ClassId) (X : XP) (F : Nat) (h_m h_m_s h_m_past h_m_held h_m_text h_m_now h_m_kept : Nat) (m_pasts : Int32) (m_runs0 : Int32) (m_typed : Int32) (m_spot : Int32) (m_reason : Int32) (m_cause : Int32) (m_orders : Int32) (m_kindNow : Int32) (m_placeNow : Int32) (m_s : Nat → Int32) (m_past : Nat → Int32) (m_held : Nat → Int32) (m_text : Nat → Int32) (m_now : Nat → Int32) (m_kept : Nat → Int32) (a1 : Int32) {res : Int32 × Int32 × (Nat → Int32) × (Nat → Int32)} (h : f_X6_recall F m_pasts m_runs0 m_s m_past a1 = some res) : CtI l D cI cS X yX6_recall cX6_recall 3 (some .int) 2 [.ref h_m, .int a1] [(h_m, .inr (6, [.ref h_m_s, .ref h_m_past, .ref h_m_held, .int m_pasts, .int m_runs0, .ref h_m_text, .int m_typed, .ref h_m_now, .ref h_m_kept, .int m_spot, .int m_reason, .int m_cause, .int m_orders, .int m_kindNow, .int m_placeNow])), (h_m_s, .inl (cI, 116, .inl m_s)), (h_m_past, .inl (cI, 464, .inl m_past)), (h_m_held, .inl (cI, 116, .inl m_held)), (h_m_text, .inl (cI, 60, .inl m_text)), (h_m_now, .inl (cI, 10, .inl m_now)), (h_m_kept, .inl (cI, 16, .inl m_kept))] (PoI res.1 [(h_m, .inr (6, [.ref h_m_s, .ref h_m_past, .ref h_m_held, .int res.2.1, .int m_runs0, .ref h_m_text, .int m_typed, .ref h_m_now, .ref h_m_kept, .int m_spot, .int m_reason, .int m_cause, .int m_orders, .int m_kindNow, .int m_placeNow])), (h_m_s, .inl (cI, 116, .inl res.2.2.1)), (h_m_past, .inl (cI, 464, .inl res.2.2.2)), (h_m_held, .inl (cI, 116, .inl m_held)), (h_m_text, .inl (cI, 60, .inl m_text)), (h_m_now, .inl (cI, 10, .inl m_now)), (h_m_kept, .inl (cI, 16, .inl m_kept))]) := by
  refine CtI.of (by decide +kernel) rfl ?_
  intro p e s m below meth c A hc
  refine G_lv (lv' := [(0, .ref h_m), (1, .int a1)]) (lsame_cons rfl (lsame_cons rfl lsame_nil)) ?_
  unfold f_X6_recall at h
  refine G_iload_n hc dX6_recall_0 rfl ?_
  refine G_if_ge (tgt := 7) hc dX6_recall_1 (by decide) (fun c18 => ?_) (fun c18 => ?_)
  · have h := ip h c18
    refine G_iload_n hc dX6_recall_7 rfl ?_
    refine G_aload_n hc dX6_recall_8 rfl ?_
    refine G_get hc f_X6_7 0 rfl rfl dX6_recall_9 ?_
    refine G_bipush (v := 27) hc dX6_recall_12 (by decide) ?_
    obtain ⟨v1, i_v1, e_v1, h⟩ := rb h
    refine G_iald hc 1 rfl i_v1 e_v1 dX6_recall_14 ?_
    refine G_icmp_lt (tgt := 21) hc dX6_recall_15 (by decide) (fun c17 => ?_) (fun c17 => ?_)
    · have h := ip h c17
      refine G_aload_n hc dX6_recall_21 rfl ?_
      obtain ⟨z2, hu3, h⟩ := ob h
      refine G_callVV (ws2 := [(h_m, .inr (6, [.ref h_m_s, .ref h_m_past, .ref h_m_held, .int z2.1, .int m_runs0, .ref h_m_text, .int m_typed, .ref h_m_now, .ref h_m_kept, .int m_spot, .int m_reason, .int m_cause, .int m_orders, .int m_kindNow, .int m_placeNow])), (h_m_s, .inl (cI, 116, .inl m_s)), (h_m_past, .inl (cI, 464, .inl z2.2)), (h_m_held, .inl (cI, 116, .inl m_held)), (h_m_text, .inl (cI, 60, .inl m_text)), (h_m_now, .inl (cI, 10, .inl m_now)), (h_m_kept, .inl (cI, 16, .inl m_kept))]) hc m_X6_46 (c_X6_changes l D cI cS X F h_m h_m_s h_m_past h_m_held h_m_text h_m_now h_m_kept m_pasts m_runs0 m_typed m_spot m_reason m_cause m_orders m_kindNow m_placeNow m_s m_past m_held m_text m_now m_kept hu3) 0 [0, 1, 2, 3, 4, 5, 6] rfl rfl (rmok_of (Nat.le_of_ble_eq_true rfl)) ⟨Nat.zero_le _, Nat.zero_le _⟩ rfl rfl rfl rfl rfl ⟨rfl, rfl, rfl⟩ dX6_recall_22 ?_
      refine G_iconst (v := 0) hc dX6_recall_25 (by decide) ?_
      refine G_istore_n (lv' := [(0, .ref h_m), (1, .int a1), (2, .int (0 : Int32))]) hc dX6_recall_26 rfl rfl ?_
      obtain ⟨e6, hl7, h⟩ := ob h
      have hK11 : G p l e (rmk 2) s m [.ref h_m, .int a1].toArray below meth c D A 3 0 0 (QI below [.ref h_m, .int a1].toArray s D A (PoI res.1 [(h_m, .inr (6, [.ref h_m_s, .ref h_m_past, .ref h_m_held, .int res.2.1, .int m_runs0, .ref h_m_text, .int m_typed, .ref h_m_now, .ref h_m_kept, .int m_spot, .int m_reason, .int m_cause, .int m_orders, .int m_kindNow, .int m_placeNow])), (h_m_s, .inl (cI, 116, .inl res.2.2.1)), (h_m_past, .inl (cI, 464, .inl res.2.2.2)), (h_m_held, .inl (cI, 116, .inl m_held)), (h_m_text, .inl (cI, 60, .inl m_text)), (h_m_now, .inl (cI, 10, .inl m_now)), (h_m_kept, .inl (cI, 16, .inl m_kept))])) [(h_m, .inr (6, [.ref h_m_s, .ref h_m_past, .ref h_m_held, .int z2.1, .int m_runs0, .ref h_m_text, .int m_typed, .ref h_m_now, .ref h_m_kept, .int m_spot, .int m_reason, .int m_cause, .int m_orders, .int m_kindNow, .int m_placeNow])), (h_m_s, .inl (cI, 116, .inl e6)), (h_m_past, .inl (cI, 464, .inl z2.2)), (h_m_held, .inl (cI, 116, .inl m_held)), (h_m_text, .inl (cI, 60, .inl m_text)), (h_m_now, .inl (cI, 10, .inl m_now)), (h_m_kept, .inl (cI, 16, .inl m_kept))] [(0, .ref h_m)] 61 [] := by
        refine G_aload_n hc dX6_recall_61 rfl ?_
        refine G_get hc f_X6_7 0 rfl rfl dX6_recall_62 ?_
        refine G_iconst (v := 0) hc dX6_recall_65 (by decide) ?_
        obtain ⟨v16, i_v16, e_v16, h⟩ := rb h
        refine G_iald hc 1 rfl i_v16 e_v16 dX6_recall_66 ?_
        have h := Option.some.inj h
        subst h
        exact G_ireturn hc ⟨rfl, rfl⟩ dX6_recall_67
      clear h
      have hL8 : ∀ (n9 : Nat) (u4 : Int32) (u5 : Nat → Int32), f_X6_recall_L27 F a1 n9 u4 u5 = some e6 → G p l e (rmk 2) s m [.ref h_m, .int a1].toArray below meth c D A 3 0 0 (QI below [.ref h_m, .int a1].toArray s D A (PoI res.1 [(h_m, .inr (6, [.ref h_m_s, .ref h_m_past, .ref h_m_held, .int res.2.1, .int m_runs0, .ref h_m_text, .int m_typed, .ref h_m_now, .ref h_m_kept, .int m_spot, .int m_reason, .int m_cause, .int m_orders, .int m_kindNow, .int m_placeNow])), (h_m_s, .inl (cI, 116, .inl res.2.2.1)), (h_m_past, .inl (cI, 464, .inl res.2.2.2)), (h_m_held, .inl (cI, 116, .inl m_held)), (h_m_text, .inl (cI, 60, .inl m_text)), (h_m_now, .inl (cI, 10, .inl m_now)), (h_m_kept, .inl (cI, 16, .inl m_kept))])) [(h_m, .inr (6, [.ref h_m_s, .ref h_m_past, .ref h_m_held, .int z2.1, .int m_runs0, .ref h_m_text, .int m_typed, .ref h_m_now, .ref h_m_kept, .int m_spot, .int m_reason, .int m_cause, .int m_orders, .int m_kindNow, .int m_placeNow])), (h_m_s, .inl (cI, 116, .inl u5)), (h_m_past, .inl (cI, 464, .inl z2.2)), (h_m_held, .inl (cI, 116, .inl m_held)), (h_m_text, .inl (cI, 60, .inl m_text)), (h_m_now, .inl (cI, 10, .inl m_now)), (h_m_kept, .inl (cI, 16, .inl m_kept))] [(0, .ref h_m), (1, .int a1), (2, .int u4)] 27 [] := by
        intro n9
        induction n9 with
        | zero =>
          intro u4 u5 h
          exact nz h
        | succ n9 ih10 =>
          intro u4 u5 h
          rw [f_X6_recall_L27] at h
          refine G_iload_n hc dX6_recall_27 rfl ?_
          refine G_bipush (v := 11) hc dX6_recall_28 (by decide) ?_
          refine G_icmp_ge (tgt := 61) hc dX6_recall_30 (by decide) (fun c15 => ?_) (fun c15 => ?_)
          · have h := ip h c15
            have h := Option.some.inj h
            subst h
            refine G_lv (lv' := [(0, .ref h_m)]) (lsame_cons rfl lsame_nil) ?_
            exact hK11
          · have h := inn h c15
            refine G_aload_n hc dX6_recall_33 rfl ?_
            refine G_get hc f_X6_7 0 rfl rfl dX6_recall_34 ?_
            refine G_iconst (v := 0) hc dX6_recall_37 (by decide) ?_
            refine G_iload_n hc dX6_recall_38 rfl ?_
            refine G_iadd hc dX6_recall_39 ?_
            refine G_aload_n hc dX6_recall_40 rfl ?_
            refine G_get hc f_X6_7 0 rfl rfl dX6_recall_41 ?_
            refine G_bipush (v := 28) hc dX6_recall_44 (by decide) ?_
            refine G_bipush (v := 11) hc dX6_recall_46 (by decide) ?_
            refine G_iload_n hc dX6_recall_48 rfl ?_
            refine G_imul hc dX6_recall_49 ?_
            refine G_iadd hc dX6_recall_50 ?_
            refine G_iload_n hc dX6_recall_51 rfl ?_
            refine G_iadd hc dX6_recall_52 ?_
            obtain ⟨v12, i_v12, e_v12, h⟩ := rb h
            refine G_iald hc 1 rfl i_v12 e_v12 dX6_recall_53 ?_
            obtain ⟨v13, i_v13, e_v13, h⟩ := wb h
            refine G_iast (ws' := [(h_m, .inr (6, [.ref h_m_s, .ref h_m_past, .ref h_m_held, .int z2.1, .int m_runs0, .ref h_m_text, .int m_typed, .ref h_m_now, .ref h_m_kept, .int m_spot, .int m_reason, .int m_cause, .int m_orders, .int m_kindNow, .int m_placeNow])), (h_m_s, .inl (cI, 116, .inl v13)), (h_m_past, .inl (cI, 464, .inl z2.2)), (h_m_held, .inl (cI, 116, .inl m_held)), (h_m_text, .inl (cI, 60, .inl m_text)), (h_m_now, .inl (cI, 10, .inl m_now)), (h_m_kept, .inl (cI, 16, .inl m_kept))]) hc 1 rfl i_v13 e_v13 rfl dX6_recall_54 ?_
            obtain ⟨v14, e_v14, h⟩ := sb h
            refine G_iinc (v := v14) (lv' := [(0, .ref h_m), (1, .int a1), (2, .int v14)]) hc dX6_recall_55 rfl (e_v14.trans rfl) rfl rfl ?_
            refine G_goto (tgt := 27) hc dX6_recall_58 (by decide) ?_
            refine G_lv (lv' := [(0, .ref h_m), (1, .int a1), (2, .int v14)]) (lsame_cons rfl (lsame_cons rfl (lsame_cons rfl lsame_nil))) ?_
            exact ih10 _ _ h
      refine G_lv (lv' := [(0, .ref h_m), (1, .int a1), (2, .int (0 : Int32))]) (lsame_cons rfl (lsame_cons rfl (lsame_cons rfl lsame_nil))) ?_
      exact hL8 F _ _ hl7
    · have h := inn h c17
      refine G_ldc (v := -1000002) hc k_X6_49 dX6_recall_18 ?_
      have h := Option.some.inj h
      subst h
      exact G_ireturn hc ⟨rfl, rfl⟩ dX6_recall_20
  · have h := inn h c18
    refine G_ldc (v := -1000001) hc k_X6_44 dX6_recall_4 ?_
    have h := Option.some.inj h
    subst h
    exact G_ireturn hc ⟨rfl, rfl⟩ dX6_recall_6
set_option maxHeartbeats 4000000 in
set_option maxRecDepth 100000 in
theorem c_X6_kinship (l : Launch) (D : va_G) (cI cS : ClassId) (X : XP) (F : Nat) (h_m h_m_s h_m_past h_m_held h_m_text h_m_now h_m_kept : Nat) (m_pasts : Int32) (m_runs0 : Int32) (m_typed : Int32) (m_spot : Int32) (m_reason : Int32) (m_cause : Int32) (m_orders : Int32) (m_kindNow : Int32) (m_placeNow : Int32) (m_s : Nat → Int32) (m_past : Nat → Int32) (m_held : Nat → Int32) (m_text : Nat → Int32) (m_now : Nat → Int32) (m_kept : Nat → Int32) (a1 : Int32) {res : Int32 × (Nat → Int32) × (Nat → Int32)} (h : f_X6_kinship F m_s m_now m_kept a1 = some res) : CtI l D cI cS X yX6_kinship cX6_kinship 6 (some .int) 4 [.ref h_m, .int a1] [(h_m, .inr (6, [.ref h_m_s, .ref h_m_past, .ref h_m_held, .int m_pasts, .int m_runs0, .ref h_m_text, .int m_typed, .ref h_m_now, .ref h_m_kept, .int m_spot, .int m_reason, .int m_cause, .int m_orders, .int m_kindNow, .int m_placeNow])), (h_m_s, .inl (cI, 116, .inl m_s)), (h_m_past, .inl (cI, 464, .inl m_past)), (h_m_held, .inl (cI, 116, .inl m_held)), (h_m_text, .inl (cI, 60, .inl m_text)), (h_m_now, .inl (cI, 10, .inl m_now)), (h_m_kept, .inl (cI, 16, .inl m_kept))] (PoI res.1 [(h_m, .inr (6, [.ref h_m_s, .ref h_m_past, .ref h_m_held, .int m_pasts, .int m_runs0, .ref h_m_text, .int m_typed, .ref h_m_now, .ref h_m_kept, .int m_spot, .int m_reason, .int m_cause, .int m_orders, .int m_kindNow, .int m_placeNow])), (h_m_s, .inl (cI, 116, .inl m_s)), (h_m_past, .inl (cI, 464, .inl m_past)), (h_m_held, .inl (cI, 116, .inl m_held)), (h_m_text, .inl (cI, 60, .inl m_text)), (h_m_now, .inl (cI, 10, .inl res.2.1)), (h_m_kept, .inl (cI, 16, .inl res.2.2))]) := by
  refine CtI.of (by decide +kernel) rfl ?_
  intro p e s m below meth c A hc
  refine G_lv (lv' := [(0, .ref h_m), (1, .int a1)]) (lsame_cons rfl (lsame_cons rfl lsame_nil)) ?_
  unfold f_X6_kinship at h
  refine G_iload_n hc dX6_kinship_0 rfl ?_
  refine G_if_ge (tgt := 7) hc dX6_kinship_1 (by decide) (fun c68 => ?_) (fun c68 => ?_)
  · have h := ip h c68
    refine G_iload_n hc dX6_kinship_7 rfl ?_
    refine G_aload_n hc dX6_kinship_8 rfl ?_
    refine G_get hc f_X6_7 0 rfl rfl dX6_kinship_9 ?_
    refine G_bipush (v := 27) hc dX6_kinship_12 (by decide) ?_
    obtain ⟨v1, i_v1, e_v1, h⟩ := rb h
    refine G_iald hc 1 rfl i_v1 e_v1 dX6_kinship_14 ?_
    refine G_icmp_ge (tgt := 39) hc dX6_kinship_15 (by decide) (fun c67 => ?_) (fun c67 => ?_)
    · have h := ip h c67
      refine G_ldc (v := -1000004) hc k_X6_50 dX6_kinship_39 ?_
      have h := Option.some.inj h
      subst h
      exact G_ireturn hc ⟨rfl, rfl⟩ dX6_kinship_41
    · have h := inn h c67
      refine G_aload_n hc dX6_kinship_18 rfl ?_
      refine G_get hc f_X6_7 0 rfl rfl dX6_kinship_19 ?_
      refine G_bipush (v := 28) hc dX6_kinship_22 (by decide) ?_
      refine G_bipush (v := 11) hc dX6_kinship_24 (by decide) ?_
      refine G_iload_n hc dX6_kinship_26 rfl ?_
      refine G_imul hc dX6_kinship_27 ?_
      refine G_iadd hc dX6_kinship_28 ?_
      obtain ⟨v2, i_v2, e_v2, h⟩ := rb h
      refine G_iald hc 1 rfl i_v2 e_v2 dX6_kinship_29 ?_
      refine G_aload_n hc dX6_kinship_30 rfl ?_
      refine G_get hc f_X6_7 0 rfl rfl dX6_kinship_31 ?_
      refine G_iconst (v := 0) hc dX6_kinship_34 (by decide) ?_
      obtain ⟨v3, i_v3, e_v3, h⟩ := rb h
      refine G_iald hc 1 rfl i_v3 e_v3 dX6_kinship_35 ?_
      refine G_icmp_eq (tgt := 42) hc dX6_kinship_36 (by decide) (fun c66 => ?_) (fun c66 => ?_)
      · have h := ip h c66
        refine G_aload_n hc dX6_kinship_42 rfl ?_
        obtain ⟨z4, hu5, h⟩ := ob h
        refine G_callVV (ws2 := [(h_m, .inr (6, [.ref h_m_s, .ref h_m_past, .ref h_m_held, .int m_pasts, .int m_runs0, .ref h_m_text, .int m_typed, .ref h_m_now, .ref h_m_kept, .int m_spot, .int m_reason, .int m_cause, .int m_orders, .int m_kindNow, .int m_placeNow])), (h_m_s, .inl (cI, 116, .inl m_s)), (h_m_past, .inl (cI, 464, .inl m_past)), (h_m_held, .inl (cI, 116, .inl m_held)), (h_m_text, .inl (cI, 60, .inl m_text)), (h_m_now, .inl (cI, 10, .inl z4.1)), (h_m_kept, .inl (cI, 16, .inl z4.2))]) hc m_X6_81 (c_X6_begin l D cI cS X F h_m h_m_s h_m_past h_m_held h_m_text h_m_now h_m_kept m_pasts m_runs0 m_typed m_spot m_reason m_cause m_orders m_kindNow m_placeNow m_s m_past m_held m_text m_now m_kept hu5) 0 [0, 1, 2, 3, 4, 5, 6] rfl rfl (rmok_of (Nat.le_of_ble_eq_true rfl)) ⟨Nat.zero_le _, Nat.zero_le _⟩ rfl rfl rfl rfl rfl ⟨rfl, rfl, rfl⟩ dX6_kinship_43 ?_
        refine G_iconst (v := 1) hc dX6_kinship_46 (by decide) ?_
        refine G_istore_n (lv' := [(0, .ref h_m), (1, .int a1), (2, .int (1 : Int32))]) hc dX6_kinship_47 rfl rfl ?_
        refine G_iconst (v := 0) hc dX6_kinship_48 (by decide) ?_
        refine G_istore_n (lv' := [(0, .ref h_m), (1, .int a1), (2, .int (1 : Int32)), (3, .int (0 : Int32))]) hc dX6_kinship_49 rfl rfl ?_
        obtain ⟨e8, hl9, h⟩ := ob h
        have hK13 : G p l e (rmk 4) s m [.ref h_m, .int a1].toArray below meth c D A 6 0 0 (QI below [.ref h_m, .int a1].toArray s D A (PoI res.1 [(h_m, .inr (6, [.ref h_m_s, .ref h_m_past, .ref h_m_held, .int m_pasts, .int m_runs0, .ref h_m_text, .int m_typed, .ref h_m_now, .ref h_m_kept, .int m_spot, .int m_reason, .int m_cause, .int m_orders, .int m_kindNow, .int m_placeNow])), (h_m_s, .inl (cI, 116, .inl m_s)), (h_m_past, .inl (cI, 464, .inl m_past)), (h_m_held, .inl (cI, 116, .inl m_held)), (h_m_text, .inl (cI, 60, .inl m_text)), (h_m_now, .inl (cI, 10, .inl res.2.1)), (h_m_kept, .inl (cI, 16, .inl res.2.2))])) [(h_m, .inr (6, [.ref h_m_s, .ref h_m_past, .ref h_m_held, .int m_pasts, .int m_runs0, .ref h_m_text, .int m_typed, .ref h_m_now, .ref h_m_kept, .int m_spot, .int m_reason, .int m_cause, .int m_orders, .int m_kindNow, .int m_placeNow])), (h_m_s, .inl (cI, 116, .inl m_s)), (h_m_past, .inl (cI, 464, .inl m_past)), (h_m_held, .inl (cI, 116, .inl m_held)), (h_m_text, .inl (cI, 60, .inl m_text)), (h_m_now, .inl (cI, 10, .inl e8)), (h_m_kept, .inl (cI, 16, .inl z4.2))] [(0, .ref h_m), (2, .int (1 : Int32))] 88 [] := by
          refine G_iconst (v := 0) hc dX6_kinship_88 (by decide) ?_
          refine G_istore_n (lv' := [(0, .ref h_m), (2, .int (1 : Int32)), (3, .int (0 : Int32))]) hc dX6_kinship_89 rfl rfl ?_
          obtain ⟨e21, hl22, h⟩ := ob h
          have hK26 : G p l e (rmk 4) s m [.ref h_m, .int a1].toArray below meth c D A 6 0 0 (QI below [.ref h_m, .int a1].toArray s D A (PoI res.1 [(h_m, .inr (6, [.ref h_m_s, .ref h_m_past, .ref h_m_held, .int m_pasts, .int m_runs0, .ref h_m_text, .int m_typed, .ref h_m_now, .ref h_m_kept, .int m_spot, .int m_reason, .int m_cause, .int m_orders, .int m_kindNow, .int m_placeNow])), (h_m_s, .inl (cI, 116, .inl m_s)), (h_m_past, .inl (cI, 464, .inl m_past)), (h_m_held, .inl (cI, 116, .inl m_held)), (h_m_text, .inl (cI, 60, .inl m_text)), (h_m_now, .inl (cI, 10, .inl res.2.1)), (h_m_kept, .inl (cI, 16, .inl res.2.2))])) [(h_m, .inr (6, [.ref h_m_s, .ref h_m_past, .ref h_m_held, .int m_pasts, .int m_runs0, .ref h_m_text, .int m_typed, .ref h_m_now, .ref h_m_kept, .int m_spot, .int m_reason, .int m_cause, .int m_orders, .int m_kindNow, .int m_placeNow])), (h_m_s, .inl (cI, 116, .inl m_s)), (h_m_past, .inl (cI, 464, .inl m_past)), (h_m_held, .inl (cI, 116, .inl m_held)), (h_m_text, .inl (cI, 60, .inl m_text)), (h_m_now, .inl (cI, 10, .inl e8)), (h_m_kept, .inl (cI, 16, .inl z4.2))] [(0, .ref h_m), (2, .int e21)] 165 [] := by
            refine G_iload_n hc dX6_kinship_165 rfl ?_
            obtain ⟨t53, hr55, h⟩ := ob h
            have hj54 : G p l e (rmk 4) s m [.ref h_m, .int a1].toArray below meth c D A 6 0 0 (QI below [.ref h_m, .int a1].toArray s D A (PoI res.1 [(h_m, .inr (6, [.ref h_m_s, .ref h_m_past, .ref h_m_held, .int m_pasts, .int m_runs0, .ref h_m_text, .int m_typed, .ref h_m_now, .ref h_m_kept, .int m_spot, .int m_reason, .int m_cause, .int m_orders, .int m_kindNow, .int m_placeNow])), (h_m_s, .inl (cI, 116, .inl m_s)), (h_m_past, .inl (cI, 464, .inl m_past)), (h_m_held, .inl (cI, 116, .inl m_held)), (h_m_text, .inl (cI, 60, .inl m_text)), (h_m_now, .inl (cI, 10, .inl res.2.1)), (h_m_kept, .inl (cI, 16, .inl res.2.2))])) [(h_m, .inr (6, [.ref h_m_s, .ref h_m_past, .ref h_m_held, .int m_pasts, .int m_runs0, .ref h_m_text, .int m_typed, .ref h_m_now, .ref h_m_kept, .int m_spot, .int m_reason, .int m_cause, .int m_orders, .int m_kindNow, .int m_placeNow])), (h_m_s, .inl (cI, 116, .inl m_s)), (h_m_past, .inl (cI, 464, .inl m_past)), (h_m_held, .inl (cI, 116, .inl m_held)), (h_m_text, .inl (cI, 60, .inl m_text)), (h_m_now, .inl (cI, 10, .inl e8)), (h_m_kept, .inl (cI, 16, .inl z4.2))] [] 211 [.int t53] := by
              have h := Option.some.inj h
              subst h
              exact G_ireturn hc ⟨rfl, rfl⟩ dX6_kinship_211
            clear h
            have h := hr55
            clear hr55
            refine G_if_ne (tgt := 174) hc dX6_kinship_166 (by decide) (fun c65 => ?_) (fun c65 => ?_)
            · have h := inn h c65
              refine G_aload_n hc dX6_kinship_174 rfl ?_
              refine G_iconst (v := 2) hc dX6_kinship_175 (by decide) ?_
              obtain ⟨z56, hu57, h⟩ := ob h
              refine G_callVI (ws2 := [(h_m, .inr (6, [.ref h_m_s, .ref h_m_past, .ref h_m_held, .int m_pasts, .int m_runs0, .ref h_m_text, .int m_typed, .ref h_m_now, .ref h_m_kept, .int m_spot, .int m_reason, .int m_cause, .int m_orders, .int m_kindNow, .int m_placeNow])), (h_m_s, .inl (cI, 116, .inl m_s)), (h_m_past, .inl (cI, 464, .inl m_past)), (h_m_held, .inl (cI, 116, .inl m_held)), (h_m_text, .inl (cI, 60, .inl m_text)), (h_m_now, .inl (cI, 10, .inl e8)), (h_m_kept, .inl (cI, 16, .inl z4.2))]) hc m_X6_84 (c_X6_isOne l D cI cS X F h_m h_m_s h_m_past h_m_held h_m_text h_m_now h_m_kept m_pasts m_runs0 m_typed m_spot m_reason m_cause m_orders m_kindNow m_placeNow m_s m_past m_held m_text e8 z4.2 (2 : Int32) hu57) 0 [0, 1, 2, 3, 4, 5, 6] rfl rfl (rmok_of (Nat.le_of_ble_eq_true rfl)) ⟨Nat.zero_le _, Nat.zero_le _⟩ rfl rfl rfl rfl rfl ⟨rfl, rfl, rfl⟩ dX6_kinship_176 ?_
              refine G_if_eq (tgt := 186) hc dX6_kinship_179 (by decide) (fun c64 => ?_) (fun c64 => ?_)
              · have h := ip h c64
                refine G_aload_n hc dX6_kinship_186 rfl ?_
                refine G_iconst (v := 1) hc dX6_kinship_187 (by decide) ?_
                obtain ⟨z58, hu59, h⟩ := ob h
                refine G_callVI (ws2 := [(h_m, .inr (6, [.ref h_m_s, .ref h_m_past, .ref h_m_held, .int m_pasts, .int m_runs0, .ref h_m_text, .int m_typed, .ref h_m_now, .ref h_m_kept, .int m_spot, .int m_reason, .int m_cause, .int m_orders, .int m_kindNow, .int m_placeNow])), (h_m_s, .inl (cI, 116, .inl m_s)), (h_m_past, .inl (cI, 464, .inl m_past)), (h_m_held, .inl (cI, 116, .inl m_held)), (h_m_text, .inl (cI, 60, .inl m_text)), (h_m_now, .inl (cI, 10, .inl e8)), (h_m_kept, .inl (cI, 16, .inl z4.2))]) hc m_X6_84 (c_X6_isOne l D cI cS X F h_m h_m_s h_m_past h_m_held h_m_text h_m_now h_m_kept m_pasts m_runs0 m_typed m_spot m_reason m_cause m_orders m_kindNow m_placeNow m_s m_past m_held m_text e8 z4.2 (1 : Int32) hu59) 0 [0, 1, 2, 3, 4, 5, 6] rfl rfl (rmok_of (Nat.le_of_ble_eq_true rfl)) ⟨Nat.zero_le _, Nat.zero_le _⟩ rfl rfl rfl rfl rfl ⟨rfl, rfl, rfl⟩ dX6_kinship_188 ?_
                refine G_if_eq (tgt := 198) hc dX6_kinship_191 (by decide) (fun c63 => ?_) (fun c63 => ?_)
                · have h := ip h c63
                  refine G_aload_n hc dX6_kinship_198 rfl ?_
                  refine G_iconst (v := 3) hc dX6_kinship_199 (by decide) ?_
                  obtain ⟨z60, hu61, h⟩ := ob h
                  refine G_callVI (ws2 := [(h_m, .inr (6, [.ref h_m_s, .ref h_m_past, .ref h_m_held, .int m_pasts, .int m_runs0, .ref h_m_text, .int m_typed, .ref h_m_now, .ref h_m_kept, .int m_spot, .int m_reason, .int m_cause, .int m_orders, .int m_kindNow, .int m_placeNow])), (h_m_s, .inl (cI, 116, .inl m_s)), (h_m_past, .inl (cI, 464, .inl m_past)), (h_m_held, .inl (cI, 116, .inl m_held)), (h_m_text, .inl (cI, 60, .inl m_text)), (h_m_now, .inl (cI, 10, .inl e8)), (h_m_kept, .inl (cI, 16, .inl z4.2))]) hc m_X6_84 (c_X6_isOne l D cI cS X F h_m h_m_s h_m_past h_m_held h_m_text h_m_now h_m_kept m_pasts m_runs0 m_typed m_spot m_reason m_cause m_orders m_kindNow m_placeNow m_s m_past m_held m_text e8 z4.2 (3 : Int32) hu61) 0 [0, 1, 2, 3, 4, 5, 6] rfl rfl (rmok_of (Nat.le_of_ble_eq_true rfl)) ⟨Nat.zero_le _, Nat.zero_le _⟩ rfl rfl rfl rfl rfl ⟨rfl, rfl, rfl⟩ dX6_kinship_200 ?_
                  refine G_if_eq (tgt := 210) hc dX6_kinship_203 (by decide) (fun c62 => ?_) (fun c62 => ?_)
                  · have h := ip h c62
                    refine G_iconst (v := 0) hc dX6_kinship_210 (by decide) ?_
                    have h := Option.some.inj h
                    subst h
                    refine G_lv (lv' := []) lsame_nil ?_
                    exact hj54
                  · have h := inn h c62
                    refine G_iconst (v := 3) hc dX6_kinship_206 (by decide) ?_
                    refine G_goto (tgt := 211) hc dX6_kinship_207 (by decide) ?_
                    have h := Option.some.inj h
                    subst h
                    refine G_lv (lv' := []) lsame_nil ?_
                    exact hj54
                · have h := inn h c63
                  refine G_iconst (v := 1) hc dX6_kinship_194 (by decide) ?_
                  refine G_goto (tgt := 211) hc dX6_kinship_195 (by decide) ?_
                  have h := Option.some.inj h
                  subst h
                  refine G_lv (lv' := []) lsame_nil ?_
                  exact hj54
              · have h := inn h c64
                refine G_iconst (v := 2) hc dX6_kinship_182 (by decide) ?_
                refine G_goto (tgt := 211) hc dX6_kinship_183 (by decide) ?_
                have h := Option.some.inj h
                subst h
                refine G_lv (lv' := []) lsame_nil ?_
                exact hj54
            · have h := ip h c65
              refine G_ldc (v := -1000004) hc k_X6_50 dX6_kinship_169 ?_
              refine G_goto (tgt := 211) hc dX6_kinship_171 (by decide) ?_
              have h := Option.some.inj h
              subst h
              refine G_lv (lv' := []) lsame_nil ?_
              exact hj54
          clear h
          have hL23 : ∀ (n24 : Nat) (u19 : Int32) (u20 : Int32), f_X6_kinship_L90 F m_s e8 n24 u19 u20 = some e21 → G p l e (rmk 4) s m [.ref h_m, .int a1].toArray below meth c D A 6 0 0 (QI below [.ref h_m, .int a1].toArray s D A (PoI res.1 [(h_m, .inr (6, [.ref h_m_s, .ref h_m_past, .ref h_m_held, .int m_pasts, .int m_runs0, .ref h_m_text, .int m_typed, .ref h_m_now, .ref h_m_kept, .int m_spot, .int m_reason, .int m_cause, .int m_orders, .int m_kindNow, .int m_placeNow])), (h_m_s, .inl (cI, 116, .inl m_s)), (h_m_past, .inl (cI, 464, .inl m_past)), (h_m_held, .inl (cI, 116, .inl m_held)), (h_m_text, .inl (cI, 60, .inl m_text)), (h_m_now, .inl (cI, 10, .inl res.2.1)), (h_m_kept, .inl (cI, 16, .inl res.2.2))])) [(h_m, .inr (6, [.ref h_m_s, .ref h_m_past, .ref h_m_held, .int m_pasts, .int m_runs0, .ref h_m_text, .int m_typed, .ref h_m_now, .ref h_m_kept, .int m_spot, .int m_reason, .int m_cause, .int m_orders, .int m_kindNow, .int m_placeNow])), (h_m_s, .inl (cI, 116, .inl m_s)), (h_m_past, .inl (cI, 464, .inl m_past)), (h_m_held, .inl (cI, 116, .inl m_held)), (h_m_text, .inl (cI, 60, .inl m_text)), (h_m_now, .inl (cI, 10, .inl e8)), (h_m_kept, .inl (cI, 16, .inl z4.2))] [(0, .ref h_m), (2, .int u19), (3, .int u20)] 90 [] := by
            intro n24
            induction n24 with
            | zero =>
              intro u19 u20 h
              exact nz h
            | succ n24 ih25 =>
              intro u19 u20 h
              rw [f_X6_kinship_L90] at h
              refine G_iload_n hc dX6_kinship_90 rfl ?_
              refine G_iconst (v := 4) hc dX6_kinship_91 (by decide) ?_
              refine G_icmp_ge (tgt := 165) hc dX6_kinship_92 (by decide) (fun c52 => ?_) (fun c52 => ?_)
              · have h := ip h c52
                have h := Option.some.inj h
                subst h
                refine G_lv (lv' := [(0, .ref h_m), (2, .int u19)]) (lsame_cons rfl (lsame_cons rfl lsame_nil)) ?_
                exact hK26
              · have h := inn h c52
                refine G_iconst (v := 0) hc dX6_kinship_95 (by decide) ?_
                refine G_istore (lv' := [(0, .ref h_m), (2, .int u19), (3, .int u20), (4, .int (0 : Int32))]) hc dX6_kinship_96 rfl rfl ?_
                refine G_iconst (v := 0) hc dX6_kinship_98 (by decide) ?_
                refine G_istore (lv' := [(0, .ref h_m), (2, .int u19), (3, .int u20), (4, .int (0 : Int32)), (5, .int (0 : Int32))]) hc dX6_kinship_99 rfl rfl ?_
                obtain ⟨e29, hl30, h⟩ := ob h
                have hK34 : G p l e (rmk 4) s m [.ref h_m, .int a1].toArray below meth c D A 6 0 0 (QI below [.ref h_m, .int a1].toArray s D A (PoI res.1 [(h_m, .inr (6, [.ref h_m_s, .ref h_m_past, .ref h_m_held, .int m_pasts, .int m_runs0, .ref h_m_text, .int m_typed, .ref h_m_now, .ref h_m_kept, .int m_spot, .int m_reason, .int m_cause, .int m_orders, .int m_kindNow, .int m_placeNow])), (h_m_s, .inl (cI, 116, .inl m_s)), (h_m_past, .inl (cI, 464, .inl m_past)), (h_m_held, .inl (cI, 116, .inl m_held)), (h_m_text, .inl (cI, 60, .inl m_text)), (h_m_now, .inl (cI, 10, .inl res.2.1)), (h_m_kept, .inl (cI, 16, .inl res.2.2))])) [(h_m, .inr (6, [.ref h_m_s, .ref h_m_past, .ref h_m_held, .int m_pasts, .int m_runs0, .ref h_m_text, .int m_typed, .ref h_m_now, .ref h_m_kept, .int m_spot, .int m_reason, .int m_cause, .int m_orders, .int m_kindNow, .int m_placeNow])), (h_m_s, .inl (cI, 116, .inl m_s)), (h_m_past, .inl (cI, 464, .inl m_past)), (h_m_held, .inl (cI, 116, .inl m_held)), (h_m_text, .inl (cI, 60, .inl m_text)), (h_m_now, .inl (cI, 10, .inl e8)), (h_m_kept, .inl (cI, 16, .inl z4.2))] [(0, .ref h_m), (2, .int u19), (3, .int u20), (4, .int e29)] 139 [] := by
                  refine G_iload_n hc dX6_kinship_139 rfl ?_
                  obtain ⟨t44, hr46, h⟩ := ob h
                  have hj45 : G p l e (rmk 4) s m [.ref h_m, .int a1].toArray below meth c D A 6 0 0 (QI below [.ref h_m, .int a1].toArray s D A (PoI res.1 [(h_m, .inr (6, [.ref h_m_s, .ref h_m_past, .ref h_m_held, .int m_pasts, .int m_runs0, .ref h_m_text, .int m_typed, .ref h_m_now, .ref h_m_kept, .int m_spot, .int m_reason, .int m_cause, .int m_orders, .int m_kindNow, .int m_placeNow])), (h_m_s, .inl (cI, 116, .inl m_s)), (h_m_past, .inl (cI, 464, .inl m_past)), (h_m_held, .inl (cI, 116, .inl m_held)), (h_m_text, .inl (cI, 60, .inl m_text)), (h_m_now, .inl (cI, 10, .inl res.2.1)), (h_m_kept, .inl (cI, 16, .inl res.2.2))])) [(h_m, .inr (6, [.ref h_m_s, .ref h_m_past, .ref h_m_held, .int m_pasts, .int m_runs0, .ref h_m_text, .int m_typed, .ref h_m_now, .ref h_m_kept, .int m_spot, .int m_reason, .int m_cause, .int m_orders, .int m_kindNow, .int m_placeNow])), (h_m_s, .inl (cI, 116, .inl m_s)), (h_m_past, .inl (cI, 464, .inl m_past)), (h_m_held, .inl (cI, 116, .inl m_held)), (h_m_text, .inl (cI, 60, .inl m_text)), (h_m_now, .inl (cI, 10, .inl e8)), (h_m_kept, .inl (cI, 16, .inl z4.2))] [(0, .ref h_m), (3, .int u20)] 158 [.int t44] := by
                    refine G_istore_n (lv' := [(0, .ref h_m), (3, .int u20), (2, .int t44)]) hc dX6_kinship_158 rfl rfl ?_
                    obtain ⟨v51, e_v51, h⟩ := sb h
                    refine G_iinc (v := v51) (lv' := [(0, .ref h_m), (3, .int v51), (2, .int t44)]) hc dX6_kinship_159 rfl (e_v51.trans rfl) rfl rfl ?_
                    refine G_goto (tgt := 90) hc dX6_kinship_162 (by decide) ?_
                    refine G_lv (lv' := [(0, .ref h_m), (2, .int t44), (3, .int v51)]) (lsame_cons rfl (lsame_cons rfl (lsame_cons rfl lsame_nil))) ?_
                    exact ih25 _ _ h
                  clear h
                  have h := hr46
                  clear hr46
                  refine G_if_eq (tgt := 157) hc dX6_kinship_140 (by decide) (fun c50 => ?_) (fun c50 => ?_)
                  · have h := ip h c50
                    refine G_iconst (v := 0) hc dX6_kinship_157 (by decide) ?_
                    have h := Option.some.inj h
                    subst h
                    refine G_lv (lv' := [(0, .ref h_m), (3, .int u20)]) (lsame_cons rfl (lsame_cons rfl lsame_nil)) ?_
                    exact hj45
                  · have h := inn h c50
                    refine G_iload hc dX6_kinship_143 rfl ?_
                    refine G_aload_n hc dX6_kinship_145 rfl ?_
                    refine G_iload_n hc dX6_kinship_146 rfl ?_
                    obtain ⟨z47, hu48, h⟩ := ob h
                    refine G_callVI (ws2 := [(h_m, .inr (6, [.ref h_m_s, .ref h_m_past, .ref h_m_held, .int m_pasts, .int m_runs0, .ref h_m_text, .int m_typed, .ref h_m_now, .ref h_m_kept, .int m_spot, .int m_reason, .int m_cause, .int m_orders, .int m_kindNow, .int m_placeNow])), (h_m_s, .inl (cI, 116, .inl m_s)), (h_m_past, .inl (cI, 464, .inl m_past)), (h_m_held, .inl (cI, 116, .inl m_held)), (h_m_text, .inl (cI, 60, .inl m_text)), (h_m_now, .inl (cI, 10, .inl e8)), (h_m_kept, .inl (cI, 16, .inl z4.2))]) hc m_X6_59 (c_X6_letters l D cI cS X F h_m h_m_s h_m_past h_m_held h_m_text h_m_now h_m_kept m_pasts m_runs0 m_typed m_spot m_reason m_cause m_orders m_kindNow m_placeNow m_s m_past m_held m_text e8 z4.2 u20 hu48) 0 [0, 1, 2, 3, 4, 5, 6] rfl rfl (rmok_of (Nat.le_of_ble_eq_true rfl)) ⟨Nat.zero_le _, Nat.zero_le _⟩ rfl rfl rfl rfl rfl ⟨rfl, rfl, rfl⟩ dX6_kinship_147 ?_
                    refine G_icmp_ne (tgt := 157) hc dX6_kinship_150 (by decide) (fun c49 => ?_) (fun c49 => ?_)
                    · have h := inn h c49
                      refine G_iconst (v := 0) hc dX6_kinship_157 (by decide) ?_
                      have h := Option.some.inj h
                      subst h
                      refine G_lv (lv' := [(0, .ref h_m), (3, .int u20)]) (lsame_cons rfl (lsame_cons rfl lsame_nil)) ?_
                      exact hj45
                    · have h := ip h c49
                      refine G_iconst (v := 1) hc dX6_kinship_153 (by decide) ?_
                      refine G_goto (tgt := 158) hc dX6_kinship_154 (by decide) ?_
                      have h := Option.some.inj h
                      subst h
                      refine G_lv (lv' := [(0, .ref h_m), (3, .int u20)]) (lsame_cons rfl (lsame_cons rfl lsame_nil)) ?_
                      exact hj45
                clear h
                have hL31 : ∀ (n32 : Nat) (u27 : Int32) (u28 : Int32), f_X6_kinship_L101 F m_s e8 u20 n32 u27 u28 = some e29 → G p l e (rmk 4) s m [.ref h_m, .int a1].toArray below meth c D A 6 0 0 (QI below [.ref h_m, .int a1].toArray s D A (PoI res.1 [(h_m, .inr (6, [.ref h_m_s, .ref h_m_past, .ref h_m_held, .int m_pasts, .int m_runs0, .ref h_m_text, .int m_typed, .ref h_m_now, .ref h_m_kept, .int m_spot, .int m_reason, .int m_cause, .int m_orders, .int m_kindNow, .int m_placeNow])), (h_m_s, .inl (cI, 116, .inl m_s)), (h_m_past, .inl (cI, 464, .inl m_past)), (h_m_held, .inl (cI, 116, .inl m_held)), (h_m_text, .inl (cI, 60, .inl m_text)), (h_m_now, .inl (cI, 10, .inl res.2.1)), (h_m_kept, .inl (cI, 16, .inl res.2.2))])) [(h_m, .inr (6, [.ref h_m_s, .ref h_m_past, .ref h_m_held, .int m_pasts, .int m_runs0, .ref h_m_text, .int m_typed, .ref h_m_now, .ref h_m_kept, .int m_spot, .int m_reason, .int m_cause, .int m_orders, .int m_kindNow, .int m_placeNow])), (h_m_s, .inl (cI, 116, .inl m_s)), (h_m_past, .inl (cI, 464, .inl m_past)), (h_m_held, .inl (cI, 116, .inl m_held)), (h_m_text, .inl (cI, 60, .inl m_text)), (h_m_now, .inl (cI, 10, .inl e8)), (h_m_kept, .inl (cI, 16, .inl z4.2))] [(0, .ref h_m), (2, .int u19), (3, .int u20), (4, .int u27), (5, .int u28)] 101 [] := by
                  intro n32
                  induction n32 with
                  | zero =>
                    intro u27 u28 h
                    exact nz h
                  | succ n32 ih33 =>
                    intro u27 u28 h
                    rw [f_X6_kinship_L101] at h
                    refine G_iload hc dX6_kinship_101 rfl ?_
                    refine G_aload_n hc dX6_kinship_103 rfl ?_
                    refine G_get hc f_X6_7 0 rfl rfl dX6_kinship_104 ?_
                    refine G_iconst (v := 0) hc dX6_kinship_107 (by decide) ?_
                    obtain ⟨v35, i_v35, e_v35, h⟩ := rb h
                    refine G_iald hc 1 rfl i_v35 e_v35 dX6_kinship_108 ?_
                    refine G_icmp_ge (tgt := 139) hc dX6_kinship_109 (by decide) (fun c43 => ?_) (fun c43 => ?_)
                    · have h := ip h c43
                      have h := Option.some.inj h
                      subst h
                      refine G_lv (lv' := [(0, .ref h_m), (2, .int u19), (3, .int u20), (4, .int u27)]) (lsame_cons rfl (lsame_cons rfl (lsame_cons rfl (lsame_cons rfl lsame_nil)))) ?_
                      exact hK34
                    · have h := inn h c43
                      refine G_iload hc dX6_kinship_112 rfl ?_
                      refine G_aload_n hc dX6_kinship_114 rfl ?_
                      refine G_get hc f_X6_22 0 rfl rfl dX6_kinship_115 ?_
                      refine G_iload hc dX6_kinship_118 rfl ?_
                      obtain ⟨v36, i_v36, e_v36, h⟩ := rb h
                      refine G_iald hc 5 rfl i_v36 e_v36 dX6_kinship_120 ?_
                      refine G_iload_n hc dX6_kinship_121 rfl ?_
                      obtain ⟨t37, hr39, h⟩ := ob h
                      have hj38 : G p l e (rmk 4) s m [.ref h_m, .int a1].toArray below meth c D A 6 0 0 (QI below [.ref h_m, .int a1].toArray s D A (PoI res.1 [(h_m, .inr (6, [.ref h_m_s, .ref h_m_past, .ref h_m_held, .int m_pasts, .int m_runs0, .ref h_m_text, .int m_typed, .ref h_m_now, .ref h_m_kept, .int m_spot, .int m_reason, .int m_cause, .int m_orders, .int m_kindNow, .int m_placeNow])), (h_m_s, .inl (cI, 116, .inl m_s)), (h_m_past, .inl (cI, 464, .inl m_past)), (h_m_held, .inl (cI, 116, .inl m_held)), (h_m_text, .inl (cI, 60, .inl m_text)), (h_m_now, .inl (cI, 10, .inl res.2.1)), (h_m_kept, .inl (cI, 16, .inl res.2.2))])) [(h_m, .inr (6, [.ref h_m_s, .ref h_m_past, .ref h_m_held, .int m_pasts, .int m_runs0, .ref h_m_text, .int m_typed, .ref h_m_now, .ref h_m_kept, .int m_spot, .int m_reason, .int m_cause, .int m_orders, .int m_kindNow, .int m_placeNow])), (h_m_s, .inl (cI, 116, .inl m_s)), (h_m_past, .inl (cI, 464, .inl m_past)), (h_m_held, .inl (cI, 116, .inl m_held)), (h_m_text, .inl (cI, 60, .inl m_text)), (h_m_now, .inl (cI, 10, .inl e8)), (h_m_kept, .inl (cI, 16, .inl z4.2))] [(0, .ref h_m), (2, .int u19), (3, .int u20), (5, .int u28)] 130 [.int t37, .int u27] := by
                        refine G_iadd hc dX6_kinship_130 ?_
                        obtain ⟨v41, e_v41, h⟩ := sb h
                        refine G_top e_v41 ?_
                        refine G_istore (lv' := [(0, .ref h_m), (2, .int u19), (3, .int u20), (5, .int u28), (4, .int v41)]) hc dX6_kinship_131 rfl rfl ?_
                        obtain ⟨v42, e_v42, h⟩ := sb h
                        refine G_iinc (v := v42) (lv' := [(0, .ref h_m), (2, .int u19), (3, .int u20), (5, .int v42), (4, .int v41)]) hc dX6_kinship_133 rfl (e_v42.trans rfl) rfl rfl ?_
                        refine G_goto (tgt := 101) hc dX6_kinship_136 (by decide) ?_
                        refine G_lv (lv' := [(0, .ref h_m), (2, .int u19), (3, .int u20), (4, .int v41), (5, .int v42)]) (lsame_cons rfl (lsame_cons rfl (lsame_cons rfl (lsame_cons rfl (lsame_cons rfl lsame_nil))))) ?_
                        exact ih33 _ _ h
                      clear h
                      have h := hr39
                      clear hr39
                      refine G_icmp_ne (tgt := 129) hc dX6_kinship_122 (by decide) (fun c40 => ?_) (fun c40 => ?_)
                      · have h := inn h c40
                        refine G_iconst (v := 0) hc dX6_kinship_129 (by decide) ?_
                        have h := Option.some.inj h
                        subst h
                        refine G_lv (lv' := [(0, .ref h_m), (2, .int u19), (3, .int u20), (5, .int u28)]) (lsame_cons rfl (lsame_cons rfl (lsame_cons rfl (lsame_cons rfl lsame_nil)))) ?_
                        exact hj38
                      · have h := ip h c40
                        refine G_iconst (v := 1) hc dX6_kinship_125 (by decide) ?_
                        refine G_goto (tgt := 130) hc dX6_kinship_126 (by decide) ?_
                        have h := Option.some.inj h
                        subst h
                        refine G_lv (lv' := [(0, .ref h_m), (2, .int u19), (3, .int u20), (5, .int u28)]) (lsame_cons rfl (lsame_cons rfl (lsame_cons rfl (lsame_cons rfl lsame_nil)))) ?_
                        exact hj38
                refine G_lv (lv' := [(0, .ref h_m), (2, .int u19), (3, .int u20), (4, .int (0 : Int32)), (5, .int (0 : Int32))]) (lsame_cons rfl (lsame_cons rfl (lsame_cons rfl (lsame_cons rfl (lsame_cons rfl lsame_nil))))) ?_
                exact hL31 F _ _ hl30
          refine G_lv (lv' := [(0, .ref h_m), (2, .int (1 : Int32)), (3, .int (0 : Int32))]) (lsame_cons rfl (lsame_cons rfl (lsame_cons rfl lsame_nil))) ?_
          exact hL23 F _ _ hl22
        clear h
        have hL10 : ∀ (n11 : Nat) (u6 : Int32) (u7 : Nat → Int32), f_X6_kinship_L50 F m_s a1 n11 u6 u7 = some e8 → G p l e (rmk 4) s m [.ref h_m, .int a1].toArray below meth c D A 6 0 0 (QI below [.ref h_m, .int a1].toArray s D A (PoI res.1 [(h_m, .inr (6, [.ref h_m_s, .ref h_m_past, .ref h_m_held, .int m_pasts, .int m_runs0, .ref h_m_text, .int m_typed, .ref h_m_now, .ref h_m_kept, .int m_spot, .int m_reason, .int m_cause, .int m_orders, .int m_kindNow, .int m_placeNow])), (h_m_s, .inl (cI, 116, .inl m_s)), (h_m_past, .inl (cI, 464, .inl m_past)), (h_m_held, .inl (cI, 116, .inl m_held)), (h_m_text, .inl (cI, 60, .inl m_text)), (h_m_now, .inl (cI, 10, .inl res.2.1)), (h_m_kept, .inl (cI, 16, .inl res.2.2))])) [(h_m, .inr (6, [.ref h_m_s, .ref h_m_past, .ref h_m_held, .int m_pasts, .int m_runs0, .ref h_m_text, .int m_typed, .ref h_m_now, .ref h_m_kept, .int m_spot, .int m_reason, .int m_cause, .int m_orders, .int m_kindNow, .int m_placeNow])), (h_m_s, .inl (cI, 116, .inl m_s)), (h_m_past, .inl (cI, 464, .inl m_past)), (h_m_held, .inl (cI, 116, .inl m_held)), (h_m_text, .inl (cI, 60, .inl m_text)), (h_m_now, .inl (cI, 10, .inl u7)), (h_m_kept, .inl (cI, 16, .inl z4.2))] [(0, .ref h_m), (1, .int a1), (2, .int (1 : Int32)), (3, .int u6)] 50 [] := by
          intro n11
          induction n11 with
          | zero =>
            intro u6 u7 h
            exact nz h
          | succ n11 ih12 =>
            intro u6 u7 h
            rw [f_X6_kinship_L50] at h
            refine G_iload_n hc dX6_kinship_50 rfl ?_
            refine G_aload_n hc dX6_kinship_51 rfl ?_
            refine G_get hc f_X6_7 0 rfl rfl dX6_kinship_52 ?_
            refine G_iconst (v := 0) hc dX6_kinship_55 (by decide) ?_
            obtain ⟨v14, i_v14, e_v14, h⟩ := rb h
            refine G_iald hc 1 rfl i_v14 e_v14 dX6_kinship_56 ?_
            refine G_icmp_ge (tgt := 88) hc dX6_kinship_57 (by decide) (fun c18 => ?_) (fun c18 => ?_)
            · have h := ip h c18
              have h := Option.some.inj h
              subst h
              refine G_lv (lv' := [(0, .ref h_m), (2, .int (1 : Int32))]) (lsame_cons rfl (lsame_cons rfl lsame_nil)) ?_
              exact hK13
            · have h := inn h c18
              refine G_aload_n hc dX6_kinship_60 rfl ?_
              refine G_get hc f_X6_22 0 rfl rfl dX6_kinship_61 ?_
              refine G_iload_n hc dX6_kinship_64 rfl ?_
              refine G_aload_n hc dX6_kinship_65 rfl ?_
              refine G_get hc f_X6_7 0 rfl rfl dX6_kinship_66 ?_
              refine G_bipush (v := 28) hc dX6_kinship_69 (by decide) ?_
              refine G_bipush (v := 11) hc dX6_kinship_71 (by decide) ?_
              refine G_iload_n hc dX6_kinship_73 rfl ?_
              refine G_imul hc dX6_kinship_74 ?_
              refine G_iadd hc dX6_kinship_75 ?_
              refine G_iconst (v := 1) hc dX6_kinship_76 (by decide) ?_
              refine G_iadd hc dX6_kinship_77 ?_
              refine G_iload_n hc dX6_kinship_78 rfl ?_
              refine G_iadd hc dX6_kinship_79 ?_
              obtain ⟨v15, i_v15, e_v15, h⟩ := rb h
              refine G_iald hc 1 rfl i_v15 e_v15 dX6_kinship_80 ?_
              obtain ⟨v16, i_v16, e_v16, h⟩ := wb h
              refine G_iast (ws' := [(h_m, .inr (6, [.ref h_m_s, .ref h_m_past, .ref h_m_held, .int m_pasts, .int m_runs0, .ref h_m_text, .int m_typed, .ref h_m_now, .ref h_m_kept, .int m_spot, .int m_reason, .int m_cause, .int m_orders, .int m_kindNow, .int m_placeNow])), (h_m_s, .inl (cI, 116, .inl m_s)), (h_m_past, .inl (cI, 464, .inl m_past)), (h_m_held, .inl (cI, 116, .inl m_held)), (h_m_text, .inl (cI, 60, .inl m_text)), (h_m_now, .inl (cI, 10, .inl v16)), (h_m_kept, .inl (cI, 16, .inl z4.2))]) hc 5 rfl i_v16 e_v16 rfl dX6_kinship_81 ?_
              obtain ⟨v17, e_v17, h⟩ := sb h
              refine G_iinc (v := v17) (lv' := [(0, .ref h_m), (1, .int a1), (2, .int (1 : Int32)), (3, .int v17)]) hc dX6_kinship_82 rfl (e_v17.trans rfl) rfl rfl ?_
              refine G_goto (tgt := 50) hc dX6_kinship_85 (by decide) ?_
              refine G_lv (lv' := [(0, .ref h_m), (1, .int a1), (2, .int (1 : Int32)), (3, .int v17)]) (lsame_cons rfl (lsame_cons rfl (lsame_cons rfl (lsame_cons rfl lsame_nil)))) ?_
              exact ih12 _ _ h
        refine G_lv (lv' := [(0, .ref h_m), (1, .int a1), (2, .int (1 : Int32)), (3, .int (0 : Int32))]) (lsame_cons rfl (lsame_cons rfl (lsame_cons rfl (lsame_cons rfl lsame_nil)))) ?_
        exact hL10 F _ _ hl9
      · have h := inn h c66
        refine G_ldc (v := -1000004) hc k_X6_50 dX6_kinship_39 ?_
        have h := Option.some.inj h
        subst h
        exact G_ireturn hc ⟨rfl, rfl⟩ dX6_kinship_41
  · have h := inn h c68
    refine G_ldc (v := -1000001) hc k_X6_44 dX6_kinship_4 ?_
    have h := Option.some.inj h
    subst h
    exact G_ireturn hc ⟨rfl, rfl⟩ dX6_kinship_6
set_option maxHeartbeats 4000000 in
set_option maxRecDepth 100000 in
theorem c_X6_unlike (l : Launch) (D : va_G) (cI cS : ClassId) (X : XP) (F : Nat) (h_m h_m_s h_m_past h_m_held h_m_text h_m_now h_m_kept : Nat) (m_pasts : Int32) (m_runs0 : Int32) (m_typed : Int32) (m_spot : Int32) (m_reason : Int32) (m_cause : Int32) (m_orders : Int32) (m_kindNow : Int32) (m_placeNow : Int32) (m_s : Nat → Int32) (m_past : Nat → Int32) (m_held : Nat → Int32) (m_text : Nat → Int32) (m_now : Nat → Int32) (m_kept : Nat → Int32) (a1 : Int32) {res : Int32} (h : f_X6_unlike F m_s a1 = some res) : CtI l D cI cS X yX6_unlike cX6_unlike 4 (some .int) 3 [.ref h_m, .int a1] [(h_m, .inr (6, [.ref h_m_s, .ref h_m_past, .ref h_m_held, .int m_pasts, .int m_runs0, .ref h_m_text, .int m_typed, .ref h_m_now, .ref h_m_kept, .int m_spot, .int m_reason, .int m_cause, .int m_orders, .int m_kindNow, .int m_placeNow])), (h_m_s, .inl (cI, 116, .inl m_s)), (h_m_past, .inl (cI, 464, .inl m_past)), (h_m_held, .inl (cI, 116, .inl m_held)), (h_m_text, .inl (cI, 60, .inl m_text)), (h_m_now, .inl (cI, 10, .inl m_now)), (h_m_kept, .inl (cI, 16, .inl m_kept))] (PoI res [(h_m, .inr (6, [.ref h_m_s, .ref h_m_past, .ref h_m_held, .int m_pasts, .int m_runs0, .ref h_m_text, .int m_typed, .ref h_m_now, .ref h_m_kept, .int m_spot, .int m_reason, .int m_cause, .int m_orders, .int m_kindNow, .int m_placeNow])), (h_m_s, .inl (cI, 116, .inl m_s)), (h_m_past, .inl (cI, 464, .inl m_past)), (h_m_held, .inl (cI, 116, .inl m_held)), (h_m_text, .inl (cI, 60, .inl m_text)), (h_m_now, .inl (cI, 10, .inl m_now)), (h_m_kept, .inl (cI, 16, .inl m_kept))]) := by
  refine CtI.of (by decide +kernel) rfl ?_
  intro p e s m below meth c A hc
  refine G_lv (lv' := [(0, .ref h_m), (1, .int a1)]) (lsame_cons rfl (lsame_cons rfl lsame_nil)) ?_
  unfold f_X6_unlike at h
  refine G_iconst (v := 0) hc dX6_unlike_0 (by decide) ?_
  refine G_istore_n (lv' := [(0, .ref h_m), (1, .int a1), (2, .int (0 : Int32))]) hc dX6_unlike_1 rfl rfl ?_
  refine G_iconst (v := 0) hc dX6_unlike_2 (by decide) ?_
  refine G_istore_n (lv' := [(0, .ref h_m), (1, .int a1), (2, .int (0 : Int32)), (3, .int (0 : Int32))]) hc dX6_unlike_3 rfl rfl ?_
  obtain ⟨e3, hl4, h⟩ := ob h
  have hK8 : G p l e (rmk 3) s m [.ref h_m, .int a1].toArray below meth c D A 4 0 0 (QI below [.ref h_m, .int a1].toArray s D A (PoI res [(h_m, .inr (6, [.ref h_m_s, .ref h_m_past, .ref h_m_held, .int m_pasts, .int m_runs0, .ref h_m_text, .int m_typed, .ref h_m_now, .ref h_m_kept, .int m_spot, .int m_reason, .int m_cause, .int m_orders, .int m_kindNow, .int m_placeNow])), (h_m_s, .inl (cI, 116, .inl m_s)), (h_m_past, .inl (cI, 464, .inl m_past)), (h_m_held, .inl (cI, 116, .inl m_held)), (h_m_text, .inl (cI, 60, .inl m_text)), (h_m_now, .inl (cI, 10, .inl m_now)), (h_m_kept, .inl (cI, 16, .inl m_kept))])) [(h_m, .inr (6, [.ref h_m_s, .ref h_m_past, .ref h_m_held, .int m_pasts, .int m_runs0, .ref h_m_text, .int m_typed, .ref h_m_now, .ref h_m_kept, .int m_spot, .int m_reason, .int m_cause, .int m_orders, .int m_kindNow, .int m_placeNow])), (h_m_s, .inl (cI, 116, .inl m_s)), (h_m_past, .inl (cI, 464, .inl m_past)), (h_m_held, .inl (cI, 116, .inl m_held)), (h_m_text, .inl (cI, 60, .inl m_text)), (h_m_now, .inl (cI, 10, .inl m_now)), (h_m_kept, .inl (cI, 16, .inl m_kept))] [(2, .int e3)] 52 [] := by
    refine G_iload_n hc dX6_unlike_52 rfl ?_
    have h := Option.some.inj h
    subst h
    exact G_ireturn hc ⟨rfl, rfl⟩ dX6_unlike_53
  clear h
  have hL5 : ∀ (n6 : Nat) (u1 : Int32) (u2 : Int32), f_X6_unlike_L4 F m_s a1 n6 u1 u2 = some e3 → G p l e (rmk 3) s m [.ref h_m, .int a1].toArray below meth c D A 4 0 0 (QI below [.ref h_m, .int a1].toArray s D A (PoI res [(h_m, .inr (6, [.ref h_m_s, .ref h_m_past, .ref h_m_held, .int m_pasts, .int m_runs0, .ref h_m_text, .int m_typed, .ref h_m_now, .ref h_m_kept, .int m_spot, .int m_reason, .int m_cause, .int m_orders, .int m_kindNow, .int m_placeNow])), (h_m_s, .inl (cI, 116, .inl m_s)), (h_m_past, .inl (cI, 464, .inl m_past)), (h_m_held, .inl (cI, 116, .inl m_held)), (h_m_text, .inl (cI, 60, .inl m_text)), (h_m_now, .inl (cI, 10, .inl m_now)), (h_m_kept, .inl (cI, 16, .inl m_kept))])) [(h_m, .inr (6, [.ref h_m_s, .ref h_m_past, .ref h_m_held, .int m_pasts, .int m_runs0, .ref h_m_text, .int m_typed, .ref h_m_now, .ref h_m_kept, .int m_spot, .int m_reason, .int m_cause, .int m_orders, .int m_kindNow, .int m_placeNow])), (h_m_s, .inl (cI, 116, .inl m_s)), (h_m_past, .inl (cI, 464, .inl m_past)), (h_m_held, .inl (cI, 116, .inl m_held)), (h_m_text, .inl (cI, 60, .inl m_text)), (h_m_now, .inl (cI, 10, .inl m_now)), (h_m_kept, .inl (cI, 16, .inl m_kept))] [(0, .ref h_m), (1, .int a1), (2, .int u1), (3, .int u2)] 4 [] := by
    intro n6
    induction n6 with
    | zero =>
      intro u1 u2 h
      exact nz h
    | succ n6 ih7 =>
      intro u1 u2 h
      rw [f_X6_unlike_L4] at h
      refine G_iload_n hc dX6_unlike_4 rfl ?_
      refine G_iload_n hc dX6_unlike_5 rfl ?_
      obtain ⟨t9, hr11, h⟩ := ob h
      have hj10 : G p l e (rmk 3) s m [.ref h_m, .int a1].toArray below meth c D A 4 0 0 (QI below [.ref h_m, .int a1].toArray s D A (PoI res [(h_m, .inr (6, [.ref h_m_s, .ref h_m_past, .ref h_m_held, .int m_pasts, .int m_runs0, .ref h_m_text, .int m_typed, .ref h_m_now, .ref h_m_kept, .int m_spot, .int m_reason, .int m_cause, .int m_orders, .int m_kindNow, .int m_placeNow])), (h_m_s, .inl (cI, 116, .inl m_s)), (h_m_past, .inl (cI, 464, .inl m_past)), (h_m_held, .inl (cI, 116, .inl m_held)), (h_m_text, .inl (cI, 60, .inl m_text)), (h_m_now, .inl (cI, 10, .inl m_now)), (h_m_kept, .inl (cI, 16, .inl m_kept))])) [(h_m, .inr (6, [.ref h_m_s, .ref h_m_past, .ref h_m_held, .int m_pasts, .int m_runs0, .ref h_m_text, .int m_typed, .ref h_m_now, .ref h_m_kept, .int m_spot, .int m_reason, .int m_cause, .int m_orders, .int m_kindNow, .int m_placeNow])), (h_m_s, .inl (cI, 116, .inl m_s)), (h_m_past, .inl (cI, 464, .inl m_past)), (h_m_held, .inl (cI, 116, .inl m_held)), (h_m_text, .inl (cI, 60, .inl m_text)), (h_m_now, .inl (cI, 10, .inl m_now)), (h_m_kept, .inl (cI, 16, .inl m_kept))] [(0, .ref h_m), (1, .int a1), (2, .int u1), (3, .int u2)] 15 [.int t9, .int u2] := by
        refine G_icmp_ge (tgt := 52) hc dX6_unlike_15 (by decide) (fun c27 => ?_) (fun c27 => ?_)
        · have h := ip h c27
          have h := Option.some.inj h
          subst h
          refine G_lv (lv' := [(2, .int u1)]) (lsame_cons rfl lsame_nil) ?_
          exact hK8
        · have h := inn h c27
          refine G_iload_n hc dX6_unlike_18 rfl ?_
          refine G_iload_n hc dX6_unlike_19 rfl ?_
          obtain ⟨t13, hr15, h⟩ := ob h
          have hj14 : G p l e (rmk 3) s m [.ref h_m, .int a1].toArray below meth c D A 4 0 0 (QI below [.ref h_m, .int a1].toArray s D A (PoI res [(h_m, .inr (6, [.ref h_m_s, .ref h_m_past, .ref h_m_held, .int m_pasts, .int m_runs0, .ref h_m_text, .int m_typed, .ref h_m_now, .ref h_m_kept, .int m_spot, .int m_reason, .int m_cause, .int m_orders, .int m_kindNow, .int m_placeNow])), (h_m_s, .inl (cI, 116, .inl m_s)), (h_m_past, .inl (cI, 464, .inl m_past)), (h_m_held, .inl (cI, 116, .inl m_held)), (h_m_text, .inl (cI, 60, .inl m_text)), (h_m_now, .inl (cI, 10, .inl m_now)), (h_m_kept, .inl (cI, 16, .inl m_kept))])) [(h_m, .inr (6, [.ref h_m_s, .ref h_m_past, .ref h_m_held, .int m_pasts, .int m_runs0, .ref h_m_text, .int m_typed, .ref h_m_now, .ref h_m_kept, .int m_spot, .int m_reason, .int m_cause, .int m_orders, .int m_kindNow, .int m_placeNow])), (h_m_s, .inl (cI, 116, .inl m_s)), (h_m_past, .inl (cI, 464, .inl m_past)), (h_m_held, .inl (cI, 116, .inl m_held)), (h_m_text, .inl (cI, 60, .inl m_text)), (h_m_now, .inl (cI, 10, .inl m_now)), (h_m_kept, .inl (cI, 16, .inl m_kept))] [(0, .ref h_m), (1, .int a1), (3, .int u2)] 36 [.int t13, .int u1] := by
            obtain ⟨t21, hr23, h⟩ := ob h
            have hj22 : G p l e (rmk 3) s m [.ref h_m, .int a1].toArray below meth c D A 4 0 0 (QI below [.ref h_m, .int a1].toArray s D A (PoI res [(h_m, .inr (6, [.ref h_m_s, .ref h_m_past, .ref h_m_held, .int m_pasts, .int m_runs0, .ref h_m_text, .int m_typed, .ref h_m_now, .ref h_m_kept, .int m_spot, .int m_reason, .int m_cause, .int m_orders, .int m_kindNow, .int m_placeNow])), (h_m_s, .inl (cI, 116, .inl m_s)), (h_m_past, .inl (cI, 464, .inl m_past)), (h_m_held, .inl (cI, 116, .inl m_held)), (h_m_text, .inl (cI, 60, .inl m_text)), (h_m_now, .inl (cI, 10, .inl m_now)), (h_m_kept, .inl (cI, 16, .inl m_kept))])) [(h_m, .inr (6, [.ref h_m_s, .ref h_m_past, .ref h_m_held, .int m_pasts, .int m_runs0, .ref h_m_text, .int m_typed, .ref h_m_now, .ref h_m_kept, .int m_spot, .int m_reason, .int m_cause, .int m_orders, .int m_kindNow, .int m_placeNow])), (h_m_s, .inl (cI, 116, .inl m_s)), (h_m_past, .inl (cI, 464, .inl m_past)), (h_m_held, .inl (cI, 116, .inl m_held)), (h_m_text, .inl (cI, 60, .inl m_text)), (h_m_now, .inl (cI, 10, .inl m_now)), (h_m_kept, .inl (cI, 16, .inl m_kept))] [(0, .ref h_m), (1, .int a1), (3, .int u2)] 44 [.int t21, .int u1] := by
              refine G_iadd hc dX6_unlike_44 ?_
              obtain ⟨v25, e_v25, h⟩ := sb h
              refine G_top e_v25 ?_
              refine G_istore_n (lv' := [(0, .ref h_m), (1, .int a1), (3, .int u2), (2, .int v25)]) hc dX6_unlike_45 rfl rfl ?_
              obtain ⟨v26, e_v26, h⟩ := sb h
              refine G_iinc (v := v26) (lv' := [(0, .ref h_m), (1, .int a1), (3, .int v26), (2, .int v25)]) hc dX6_unlike_46 rfl (e_v26.trans rfl) rfl rfl ?_
              refine G_goto (tgt := 4) hc dX6_unlike_49 (by decide) ?_
              refine G_lv (lv' := [(0, .ref h_m), (1, .int a1), (2, .int v25), (3, .int v26)]) (lsame_cons rfl (lsame_cons rfl (lsame_cons rfl (lsame_cons rfl lsame_nil)))) ?_
              exact ih7 _ _ h
            clear h
            have h := hr23
            clear hr23
            refine G_if_le (tgt := 43) hc dX6_unlike_36 (by decide) (fun c24 => ?_) (fun c24 => ?_)
            · have h := ip h c24
              refine G_iconst (v := 0) hc dX6_unlike_43 (by decide) ?_
              have h := Option.some.inj h
              subst h
              refine G_lv (lv' := [(0, .ref h_m), (1, .int a1), (3, .int u2)]) (lsame_cons rfl (lsame_cons rfl (lsame_cons rfl lsame_nil))) ?_
              exact hj22
            · have h := inn h c24
              refine G_iconst (v := 1) hc dX6_unlike_39 (by decide) ?_
              refine G_goto (tgt := 44) hc dX6_unlike_40 (by decide) ?_
              have h := Option.some.inj h
              subst h
              refine G_lv (lv' := [(0, .ref h_m), (1, .int a1), (3, .int u2)]) (lsame_cons rfl (lsame_cons rfl (lsame_cons rfl lsame_nil))) ?_
              exact hj22
          clear h
          have h := hr15
          clear hr15
          refine G_if_eq (tgt := 31) hc dX6_unlike_20 (by decide) (fun c20 => ?_) (fun c20 => ?_)
          · have h := ip h c20
            refine G_aload_n hc dX6_unlike_31 rfl ?_
            refine G_iload_n hc dX6_unlike_32 rfl ?_
            obtain ⟨z16, hu17, h⟩ := ob h
            refine G_callVI (ws2 := [(h_m, .inr (6, [.ref h_m_s, .ref h_m_past, .ref h_m_held, .int m_pasts, .int m_runs0, .ref h_m_text, .int m_typed, .ref h_m_now, .ref h_m_kept, .int m_spot, .int m_reason, .int m_cause, .int m_orders, .int m_kindNow, .int m_placeNow])), (h_m_s, .inl (cI, 116, .inl m_s)), (h_m_past, .inl (cI, 464, .inl m_past)), (h_m_held, .inl (cI, 116, .inl m_held)), (h_m_text, .inl (cI, 60, .inl m_text)), (h_m_now, .inl (cI, 10, .inl m_now)), (h_m_kept, .inl (cI, 16, .inl m_kept))]) hc m_X6_59 (c_X6_letters l D cI cS X F h_m h_m_s h_m_past h_m_held h_m_text h_m_now h_m_kept m_pasts m_runs0 m_typed m_spot m_reason m_cause m_orders m_kindNow m_placeNow m_s m_past m_held m_text m_now m_kept u2 hu17) 0 [0, 1, 2, 3, 4, 5, 6] rfl rfl (rmok_of (Nat.le_of_ble_eq_true rfl)) ⟨Nat.zero_le _, Nat.zero_le _⟩ rfl rfl rfl rfl rfl ⟨rfl, rfl, rfl⟩ dX6_unlike_33 ?_
            have h := Option.some.inj h
            subst h
            refine G_lv (lv' := [(0, .ref h_m), (1, .int a1), (3, .int u2)]) (lsame_cons rfl (lsame_cons rfl (lsame_cons rfl lsame_nil))) ?_
            exact hj14
          · have h := inn h c20
            refine G_aload_n hc dX6_unlike_23 rfl ?_
            refine G_iload_n hc dX6_unlike_24 rfl ?_
            obtain ⟨z18, hu19, h⟩ := ob h
            refine G_callVI (ws2 := [(h_m, .inr (6, [.ref h_m_s, .ref h_m_past, .ref h_m_held, .int m_pasts, .int m_runs0, .ref h_m_text, .int m_typed, .ref h_m_now, .ref h_m_kept, .int m_spot, .int m_reason, .int m_cause, .int m_orders, .int m_kindNow, .int m_placeNow])), (h_m_s, .inl (cI, 116, .inl m_s)), (h_m_past, .inl (cI, 464, .inl m_past)), (h_m_held, .inl (cI, 116, .inl m_held)), (h_m_text, .inl (cI, 60, .inl m_text)), (h_m_now, .inl (cI, 10, .inl m_now)), (h_m_kept, .inl (cI, 16, .inl m_kept))]) hc m_X6_55 (c_X6_pairs l D cI cS X F h_m h_m_s h_m_past h_m_held h_m_text h_m_now h_m_kept m_pasts m_runs0 m_typed m_spot m_reason m_cause m_orders m_kindNow m_placeNow m_s m_past m_held m_text m_now m_kept u2 hu19) 0 [0, 1, 2, 3, 4, 5, 6] rfl rfl (rmok_of (Nat.le_of_ble_eq_true rfl)) ⟨Nat.zero_le _, Nat.zero_le _⟩ rfl rfl rfl rfl rfl ⟨rfl, rfl, rfl⟩ dX6_unlike_25 ?_
            refine G_goto (tgt := 36) hc dX6_unlike_28 (by decide) ?_
            have h := Option.some.inj h
            subst h
            refine G_lv (lv' := [(0, .ref h_m), (1, .int a1), (3, .int u2)]) (lsame_cons rfl (lsame_cons rfl (lsame_cons rfl lsame_nil))) ?_
            exact hj14
      clear h
      have h := hr11
      clear hr11
      refine G_if_eq (tgt := 14) hc dX6_unlike_6 (by decide) (fun c12 => ?_) (fun c12 => ?_)
      · have h := ip h c12
        refine G_iconst (v := 4) hc dX6_unlike_14 (by decide) ?_
        have h := Option.some.inj h
        subst h
        refine G_lv (lv' := [(0, .ref h_m), (1, .int a1), (2, .int u1), (3, .int u2)]) (lsame_cons rfl (lsame_cons rfl (lsame_cons rfl (lsame_cons rfl lsame_nil)))) ?_
        exact hj10
      · have h := inn h c12
        refine G_bipush (v := 16) hc dX6_unlike_9 (by decide) ?_
        refine G_goto (tgt := 15) hc dX6_unlike_11 (by decide) ?_
        have h := Option.some.inj h
        subst h
        refine G_lv (lv' := [(0, .ref h_m), (1, .int a1), (2, .int u1), (3, .int u2)]) (lsame_cons rfl (lsame_cons rfl (lsame_cons rfl (lsame_cons rfl lsame_nil)))) ?_
        exact hj10
  refine G_lv (lv' := [(0, .ref h_m), (1, .int a1), (2, .int (0 : Int32)), (3, .int (0 : Int32))]) (lsame_cons rfl (lsame_cons rfl (lsame_cons rfl (lsame_cons rfl lsame_nil)))) ?_
  exact hL5 F _ _ hl4
set_option maxHeartbeats 4000000 in
set_option maxRecDepth 100000 in
theorem c_X6_count (l : Launch) (D : va_G) (cI cS : ClassId) (X : XP) (F : Nat) (h_m h_m_s h_m_past h_m_held h_m_text h_m_now h_m_kept : Nat) (m_pasts : Int32) (m_runs0 : Int32) (m_typed : Int32) (m_spot : Int32) (m_reason : Int32) (m_cause : Int32) (m_orders : Int32) (m_kindNow : Int32) (m_placeNow : Int32) (m_s : Nat → Int32) (m_past : Nat → Int32) (m_held : Nat → Int32) (m_text : Nat → Int32) (m_now : Nat → Int32) (m_kept : Nat → Int32) (a1 : Int32) {res : Int32} (h : f_X6_count F m_pasts m_typed m_s a1 = some res) : CtI l D cI cS X yX6_count cX6_count 2 (some .int) 4 [.ref h_m, .int a1] [(h_m, .inr (6, [.ref h_m_s, .ref h_m_past, .ref h_m_held, .int m_pasts, .int m_runs0, .ref h_m_text, .int m_typed, .ref h_m_now, .ref h_m_kept, .int m_spot, .int m_reason, .int m_cause, .int m_orders, .int m_kindNow, .int m_placeNow])), (h_m_s, .inl (cI, 116, .inl m_s)), (h_m_past, .inl (cI, 464, .inl m_past)), (h_m_held, .inl (cI, 116, .inl m_held)), (h_m_text, .inl (cI, 60, .inl m_text)), (h_m_now, .inl (cI, 10, .inl m_now)), (h_m_kept, .inl (cI, 16, .inl m_kept))] (PoI res [(h_m, .inr (6, [.ref h_m_s, .ref h_m_past, .ref h_m_held, .int m_pasts, .int m_runs0, .ref h_m_text, .int m_typed, .ref h_m_now, .ref h_m_kept, .int m_spot, .int m_reason, .int m_cause, .int m_orders, .int m_kindNow, .int m_placeNow])), (h_m_s, .inl (cI, 116, .inl m_s)), (h_m_past, .inl (cI, 464, .inl m_past)), (h_m_held, .inl (cI, 116, .inl m_held)), (h_m_text, .inl (cI, 60, .inl m_text)), (h_m_now, .inl (cI, 10, .inl m_now)), (h_m_kept, .inl (cI, 16, .inl m_kept))]) := by
  refine CtI.of (by decide +kernel) rfl ?_
  intro p e s m below meth c A hc
  refine G_lv (lv' := [(0, .ref h_m), (1, .int a1)]) (lsame_cons rfl (lsame_cons rfl lsame_nil)) ?_
  unfold f_X6_count at h
  refine G_iload_n hc dX6_count_0 rfl ?_
  by_cases c1 : a1 = (0 : Int32)
  · have h := ip h c1
    refine G_tableIn (tgt := 48) hc dX6_count_1 (0 : Int32) c1 (by decide) (by decide) rfl (by decide) ?_
    refine G_aload_n hc dX6_count_48 rfl ?_
    refine G_get hc f_X6_7 0 rfl rfl dX6_count_49 ?_
    refine G_iconst (v := 0) hc dX6_count_52 (by decide) ?_
    obtain ⟨v2, i_v2, e_v2, h⟩ := rb h
    refine G_iald hc 1 rfl i_v2 e_v2 dX6_count_53 ?_
    have h := Option.some.inj h
    subst h
    exact G_ireturn hc ⟨rfl, rfl⟩ dX6_count_54
  · have h := inn h c1
    by_cases c3 : a1 = (1 : Int32)
    · have h := ip h c3
      refine G_tableIn (tgt := 55) hc dX6_count_1 (1 : Int32) c3 (by decide) (by decide) rfl (by decide) ?_
      refine G_aload_n hc dX6_count_55 rfl ?_
      refine G_iload_n hc dX6_count_56 rfl ?_
      refine G_iconst (v := 2) hc dX6_count_57 (by decide) ?_
      obtain ⟨t4, hr6, h⟩ := ob h
      have hj5 : G p l e (rmk 4) s m [.ref h_m, .int a1].toArray below meth c D A 2 0 0 (QI below [.ref h_m, .int a1].toArray s D A (PoI res [(h_m, .inr (6, [.ref h_m_s, .ref h_m_past, .ref h_m_held, .int m_pasts, .int m_runs0, .ref h_m_text, .int m_typed, .ref h_m_now, .ref h_m_kept, .int m_spot, .int m_reason, .int m_cause, .int m_orders, .int m_kindNow, .int m_placeNow])), (h_m_s, .inl (cI, 116, .inl m_s)), (h_m_past, .inl (cI, 464, .inl m_past)), (h_m_held, .inl (cI, 116, .inl m_held)), (h_m_text, .inl (cI, 60, .inl m_text)), (h_m_now, .inl (cI, 10, .inl m_now)), (h_m_kept, .inl (cI, 16, .inl m_kept))])) [(h_m, .inr (6, [.ref h_m_s, .ref h_m_past, .ref h_m_held, .int m_pasts, .int m_runs0, .ref h_m_text, .int m_typed, .ref h_m_now, .ref h_m_kept, .int m_spot, .int m_reason, .int m_cause, .int m_orders, .int m_kindNow, .int m_placeNow])), (h_m_s, .inl (cI, 116, .inl m_s)), (h_m_past, .inl (cI, 464, .inl m_past)), (h_m_held, .inl (cI, 116, .inl m_held)), (h_m_text, .inl (cI, 60, .inl m_text)), (h_m_now, .inl (cI, 10, .inl m_now)), (h_m_kept, .inl (cI, 16, .inl m_kept))] [] 66 [.int t4, .ref h_m] := by
        obtain ⟨z8, hu9, h⟩ := ob h
        refine G_callVI (ws2 := [(h_m, .inr (6, [.ref h_m_s, .ref h_m_past, .ref h_m_held, .int m_pasts, .int m_runs0, .ref h_m_text, .int m_typed, .ref h_m_now, .ref h_m_kept, .int m_spot, .int m_reason, .int m_cause, .int m_orders, .int m_kindNow, .int m_placeNow])), (h_m_s, .inl (cI, 116, .inl m_s)), (h_m_past, .inl (cI, 464, .inl m_past)), (h_m_held, .inl (cI, 116, .inl m_held)), (h_m_text, .inl (cI, 60, .inl m_text)), (h_m_now, .inl (cI, 10, .inl m_now)), (h_m_kept, .inl (cI, 16, .inl m_kept))]) hc m_X6_115 (c_X6_unlike l D cI cS X F h_m h_m_s h_m_past h_m_held h_m_text h_m_now h_m_kept m_pasts m_runs0 m_typed m_spot m_reason m_cause m_orders m_kindNow m_placeNow m_s m_past m_held m_text m_now m_kept t4 hu9) 0 [0, 1, 2, 3, 4, 5, 6] rfl rfl (rmok_of (Nat.le_of_ble_eq_true rfl)) ⟨Nat.zero_le _, Nat.zero_le _⟩ rfl rfl rfl rfl rfl ⟨rfl, rfl, rfl⟩ dX6_count_66 ?_
        have h := Option.some.inj h
        subst h
        exact G_ireturn hc ⟨rfl, rfl⟩ dX6_count_69
      clear h
      have h := hr6
      clear hr6
      refine G_icmp_ne (tgt := 65) hc dX6_count_58 (by decide) (fun c7 => ?_) (fun c7 => ?_)
      · have h := inn h c7
        refine G_iconst (v := 0) hc dX6_count_65 (by decide) ?_
        have h := Option.some.inj h
        subst h
        refine G_lv (lv' := []) lsame_nil ?_
        exact hj5
      · have h := ip h c7
        refine G_iconst (v := 1) hc dX6_count_61 (by decide) ?_
        refine G_goto (tgt := 66) hc dX6_count_62 (by decide) ?_
        have h := Option.some.inj h
        subst h
        refine G_lv (lv' := []) lsame_nil ?_
        exact hj5
    · have h := inn h c3
      by_cases c10 : a1 = (2 : Int32)
      · have h := ip h c10
        refine G_tableIn (tgt := 55) hc dX6_count_1 (2 : Int32) c10 (by decide) (by decide) rfl (by decide) ?_
        refine G_aload_n hc dX6_count_55 rfl ?_
        refine G_iload_n hc dX6_count_56 rfl ?_
        refine G_iconst (v := 2) hc dX6_count_57 (by decide) ?_
        obtain ⟨t11, hr13, h⟩ := ob h
        have hj12 : G p l e (rmk 4) s m [.ref h_m, .int a1].toArray below meth c D A 2 0 0 (QI below [.ref h_m, .int a1].toArray s D A (PoI res [(h_m, .inr (6, [.ref h_m_s, .ref h_m_past, .ref h_m_held, .int m_pasts, .int m_runs0, .ref h_m_text, .int m_typed, .ref h_m_now, .ref h_m_kept, .int m_spot, .int m_reason, .int m_cause, .int m_orders, .int m_kindNow, .int m_placeNow])), (h_m_s, .inl (cI, 116, .inl m_s)), (h_m_past, .inl (cI, 464, .inl m_past)), (h_m_held, .inl (cI, 116, .inl m_held)), (h_m_text, .inl (cI, 60, .inl m_text)), (h_m_now, .inl (cI, 10, .inl m_now)), (h_m_kept, .inl (cI, 16, .inl m_kept))])) [(h_m, .inr (6, [.ref h_m_s, .ref h_m_past, .ref h_m_held, .int m_pasts, .int m_runs0, .ref h_m_text, .int m_typed, .ref h_m_now, .ref h_m_kept, .int m_spot, .int m_reason, .int m_cause, .int m_orders, .int m_kindNow, .int m_placeNow])), (h_m_s, .inl (cI, 116, .inl m_s)), (h_m_past, .inl (cI, 464, .inl m_past)), (h_m_held, .inl (cI, 116, .inl m_held)), (h_m_text, .inl (cI, 60, .inl m_text)), (h_m_now, .inl (cI, 10, .inl m_now)), (h_m_kept, .inl (cI, 16, .inl m_kept))] [] 66 [.int t11, .ref h_m] := by
          obtain ⟨z15, hu16, h⟩ := ob h
          refine G_callVI (ws2 := [(h_m, .inr (6, [.ref h_m_s, .ref h_m_past, .ref h_m_held, .int m_pasts, .int m_runs0, .ref h_m_text, .int m_typed, .ref h_m_now, .ref h_m_kept, .int m_spot, .int m_reason, .int m_cause, .int m_orders, .int m_kindNow, .int m_placeNow])), (h_m_s, .inl (cI, 116, .inl m_s)), (h_m_past, .inl (cI, 464, .inl m_past)), (h_m_held, .inl (cI, 116, .inl m_held)), (h_m_text, .inl (cI, 60, .inl m_text)), (h_m_now, .inl (cI, 10, .inl m_now)), (h_m_kept, .inl (cI, 16, .inl m_kept))]) hc m_X6_115 (c_X6_unlike l D cI cS X F h_m h_m_s h_m_past h_m_held h_m_text h_m_now h_m_kept m_pasts m_runs0 m_typed m_spot m_reason m_cause m_orders m_kindNow m_placeNow m_s m_past m_held m_text m_now m_kept t11 hu16) 0 [0, 1, 2, 3, 4, 5, 6] rfl rfl (rmok_of (Nat.le_of_ble_eq_true rfl)) ⟨Nat.zero_le _, Nat.zero_le _⟩ rfl rfl rfl rfl rfl ⟨rfl, rfl, rfl⟩ dX6_count_66 ?_
          have h := Option.some.inj h
          subst h
          exact G_ireturn hc ⟨rfl, rfl⟩ dX6_count_69
        clear h
        have h := hr13
        clear hr13
        refine G_icmp_ne (tgt := 65) hc dX6_count_58 (by decide) (fun c14 => ?_) (fun c14 => ?_)
        · have h := inn h c14
          refine G_iconst (v := 0) hc dX6_count_65 (by decide) ?_
          have h := Option.some.inj h
          subst h
          refine G_lv (lv' := []) lsame_nil ?_
          exact hj12
        · have h := ip h c14
          refine G_iconst (v := 1) hc dX6_count_61 (by decide) ?_
          refine G_goto (tgt := 66) hc dX6_count_62 (by decide) ?_
          have h := Option.some.inj h
          subst h
          refine G_lv (lv' := []) lsame_nil ?_
          exact hj12
      · have h := inn h c10
        by_cases c17 : a1 = (3 : Int32)
        · have h := ip h c17
          refine G_tableIn (tgt := 70) hc dX6_count_1 (3 : Int32) c17 (by decide) (by decide) rfl (by decide) ?_
          refine G_aload_n hc dX6_count_70 rfl ?_
          refine G_aload_n hc dX6_count_71 rfl ?_
          refine G_get hc f_X6_7 0 rfl rfl dX6_count_72 ?_
          refine G_iconst (v := 1) hc dX6_count_75 (by decide) ?_
          obtain ⟨z18, hu19, h⟩ := ob h
          refine G_callVI (ws2 := [(h_m, .inr (6, [.ref h_m_s, .ref h_m_past, .ref h_m_held, .int m_pasts, .int m_runs0, .ref h_m_text, .int m_typed, .ref h_m_now, .ref h_m_kept, .int m_spot, .int m_reason, .int m_cause, .int m_orders, .int m_kindNow, .int m_placeNow])), (h_m_s, .inl (cI, 116, .inl m_s)), (h_m_past, .inl (cI, 464, .inl m_past)), (h_m_held, .inl (cI, 116, .inl m_held)), (h_m_text, .inl (cI, 60, .inl m_text)), (h_m_now, .inl (cI, 10, .inl m_now)), (h_m_kept, .inl (cI, 16, .inl m_kept))]) hc m_X6_107 (c_X6_runsOf_m_s l D cI cS X F h_m h_m_s h_m_past h_m_held h_m_text h_m_now h_m_kept m_pasts m_runs0 m_typed m_spot m_reason m_cause m_orders m_kindNow m_placeNow m_s m_past m_held m_text m_now m_kept (1 : Int32) hu19) 0 [0, 1, 2, 3, 4, 5, 6] rfl rfl (rmok_of (Nat.le_of_ble_eq_true rfl)) ⟨Nat.zero_le _, Nat.zero_le _⟩ rfl rfl rfl rfl rfl ⟨rfl, rfl, rfl⟩ dX6_count_76 ?_
          have h := Option.some.inj h
          subst h
          exact G_ireturn hc ⟨rfl, rfl⟩ dX6_count_79
        · have h := inn h c17
          by_cases c20 : a1 = (4 : Int32)
          · have h := ip h c20
            refine G_tableIn (tgt := 80) hc dX6_count_1 (4 : Int32) c20 (by decide) (by decide) rfl (by decide) ?_
            refine G_aload_n hc dX6_count_80 rfl ?_
            refine G_get hc f_X6_7 0 rfl rfl dX6_count_81 ?_
            refine G_iconst (v := 0) hc dX6_count_84 (by decide) ?_
            obtain ⟨v21, i_v21, e_v21, h⟩ := rb h
            refine G_iald hc 1 rfl i_v21 e_v21 dX6_count_85 ?_
            refine G_iconst (v := 2) hc dX6_count_86 (by decide) ?_
            refine G_idiv hc dX6_count_87 (by decide) ?_
            have h := Option.some.inj h
            subst h
            exact G_ireturn hc ⟨rfl, rfl⟩ dX6_count_88
          · have h := inn h c20
            by_cases c22 : a1 = (5 : Int32)
            · have h := ip h c22
              refine G_tableIn (tgt := 89) hc dX6_count_1 (5 : Int32) c22 (by decide) (by decide) rfl (by decide) ?_
              refine G_aload_n hc dX6_count_89 rfl ?_
              refine G_get hc f_X6_7 0 rfl rfl dX6_count_90 ?_
              refine G_bipush (v := 27) hc dX6_count_93 (by decide) ?_
              obtain ⟨v23, i_v23, e_v23, h⟩ := rb h
              refine G_iald hc 1 rfl i_v23 e_v23 dX6_count_95 ?_
              have h := Option.some.inj h
              subst h
              exact G_ireturn hc ⟨rfl, rfl⟩ dX6_count_96
            · have h := inn h c22
              by_cases c24 : a1 = (6 : Int32)
              · have h := ip h c24
                refine G_tableIn (tgt := 97) hc dX6_count_1 (6 : Int32) c24 (by decide) (by decide) rfl (by decide) ?_
                refine G_aload_n hc dX6_count_97 rfl ?_
                refine G_get hc f_X6_36 0 rfl rfl dX6_count_98 ?_
                have h := Option.some.inj h
                subst h
                exact G_ireturn hc ⟨rfl, rfl⟩ dX6_count_101
              · have h := inn h c24
                by_cases c25 : a1 = (7 : Int32)
                · have h := ip h c25
                  refine G_tableIn (tgt := 102) hc dX6_count_1 (7 : Int32) c25 (by decide) (by decide) rfl (by decide) ?_
                  refine G_aload_n hc dX6_count_102 rfl ?_
                  refine G_get hc f_X6_119 0 rfl rfl dX6_count_103 ?_
                  have h := Option.some.inj h
                  subst h
                  exact G_ireturn hc ⟨rfl, rfl⟩ dX6_count_106
                · have h := inn h c25
                  refine G_tableOut (tgt := 107) hc dX6_count_1 (sw_out_0_7 c1 c3 c10 c17 c20 c22 c24 c25) (by decide) ?_
                  refine G_ldc (v := -1000001) hc k_X6_44 dX6_count_107 ?_
                  have h := Option.some.inj h
                  subst h
                  exact G_ireturn hc ⟨rfl, rfl⟩ dX6_count_109
set_option maxHeartbeats 4000000 in
set_option maxRecDepth 100000 in
theorem c_X6_undo (l : Launch) (D : va_G) (cI cS : ClassId) (X : XP) (F : Nat) (h_m h_m_s h_m_past h_m_held h_m_text h_m_now h_m_kept : Nat) (m_pasts : Int32) (m_runs0 : Int32) (m_typed : Int32) (m_spot : Int32) (m_reason : Int32) (m_cause : Int32) (m_orders : Int32) (m_kindNow : Int32) (m_placeNow : Int32) (m_s : Nat → Int32) (m_past : Nat → Int32) (m_held : Nat → Int32) (m_text : Nat → Int32) (m_now : Nat → Int32) (m_kept : Nat → Int32) {res : Int32 × Int32 × (Nat → Int32)} (h : f_X6_undo F m_pasts m_s m_past = some res) : CtI l D cI cS X yX6_undo cX6_undo 2 (some .int) 1 [.ref h_m] [(h_m, .inr (6, [.ref h_m_s, .ref h_m_past, .ref h_m_held, .int m_pasts, .int m_runs0, .ref h_m_text, .int m_typed, .ref h_m_now, .ref h_m_kept, .int m_spot, .int m_reason, .int m_cause, .int m_orders, .int m_kindNow, .int m_placeNow])), (h_m_s, .inl (cI, 116, .inl m_s)), (h_m_past, .inl (cI, 464, .inl m_past)), (h_m_held, .inl (cI, 116, .inl m_held)), (h_m_text, .inl (cI, 60, .inl m_text)), (h_m_now, .inl (cI, 10, .inl m_now)), (h_m_kept, .inl (cI, 16, .inl m_kept))] (PoI res.1 [(h_m, .inr (6, [.ref h_m_s, .ref h_m_past, .ref h_m_held, .int res.2.1, .int m_runs0, .ref h_m_text, .int m_typed, .ref h_m_now, .ref h_m_kept, .int m_spot, .int m_reason, .int m_cause, .int m_orders, .int m_kindNow, .int m_placeNow])), (h_m_s, .inl (cI, 116, .inl res.2.2)), (h_m_past, .inl (cI, 464, .inl m_past)), (h_m_held, .inl (cI, 116, .inl m_held)), (h_m_text, .inl (cI, 60, .inl m_text)), (h_m_now, .inl (cI, 10, .inl m_now)), (h_m_kept, .inl (cI, 16, .inl m_kept))]) := by
  refine CtI.of (by decide +kernel) rfl ?_
  intro p e s m below meth c A hc
  refine G_lv (lv' := [(0, .ref h_m)]) (lsame_cons rfl lsame_nil) ?_
  unfold f_X6_undo at h
  refine G_aload_n hc dX6_undo_0 rfl ?_
  refine G_get hc f_X6_36 0 rfl rfl dX6_undo_1 ?_
  refine G_if_ne (tgt := 10) hc dX6_undo_4 (by decide) (fun c14 => ?_) (fun c14 => ?_)
  · have h := inn h c14
    refine G_aload_n hc dX6_undo_10 rfl ?_
    refine G_dup hc dX6_undo_11 rfl ?_
    refine G_get hc f_X6_36 0 rfl rfl dX6_undo_12 ?_
    refine G_iconst (v := 1) hc dX6_undo_15 (by decide) ?_
    refine G_isub hc dX6_undo_16 ?_
    obtain ⟨v1, e_v1, h⟩ := sb h
    refine G_top e_v1 ?_
    refine G_puti (ws' := [(h_m, .inr (6, [.ref h_m_s, .ref h_m_past, .ref h_m_held, .int v1, .int m_runs0, .ref h_m_text, .int m_typed, .ref h_m_now, .ref h_m_kept, .int m_spot, .int m_reason, .int m_cause, .int m_orders, .int m_kindNow, .int m_placeNow])), (h_m_s, .inl (cI, 116, .inl m_s)), (h_m_past, .inl (cI, 464, .inl m_past)), (h_m_held, .inl (cI, 116, .inl m_held)), (h_m_text, .inl (cI, 60, .inl m_text)), (h_m_now, .inl (cI, 10, .inl m_now)), (h_m_kept, .inl (cI, 16, .inl m_kept))]) hc f_X6_36 p_X6_3 0 rfl rfl rfl dX6_undo_17 ?_
    refine G_iconst (v := 0) hc dX6_undo_20 (by decide) ?_
    refine G_istore_n (lv' := [(0, .ref h_m), (1, .int (0 : Int32))]) hc dX6_undo_21 rfl rfl ?_
    obtain ⟨e4, hl5, h⟩ := ob h
    have hK9 : G p l e (rmk 1) s m [.ref h_m].toArray below meth c D A 2 0 0 (QI below [.ref h_m].toArray s D A (PoI res.1 [(h_m, .inr (6, [.ref h_m_s, .ref h_m_past, .ref h_m_held, .int res.2.1, .int m_runs0, .ref h_m_text, .int m_typed, .ref h_m_now, .ref h_m_kept, .int m_spot, .int m_reason, .int m_cause, .int m_orders, .int m_kindNow, .int m_placeNow])), (h_m_s, .inl (cI, 116, .inl res.2.2)), (h_m_past, .inl (cI, 464, .inl m_past)), (h_m_held, .inl (cI, 116, .inl m_held)), (h_m_text, .inl (cI, 60, .inl m_text)), (h_m_now, .inl (cI, 10, .inl m_now)), (h_m_kept, .inl (cI, 16, .inl m_kept))])) [(h_m, .inr (6, [.ref h_m_s, .ref h_m_past, .ref h_m_held, .int v1, .int m_runs0, .ref h_m_text, .int m_typed, .ref h_m_now, .ref h_m_kept, .int m_spot, .int m_reason, .int m_cause, .int m_orders, .int m_kindNow, .int m_placeNow])), (h_m_s, .inl (cI, 116, .inl e4)), (h_m_past, .inl (cI, 464, .inl m_past)), (h_m_held, .inl (cI, 116, .inl m_held)), (h_m_text, .inl (cI, 60, .inl m_text)), (h_m_now, .inl (cI, 10, .inl m_now)), (h_m_kept, .inl (cI, 16, .inl m_kept))] [(0, .ref h_m)] 54 [] := by
      refine G_aload_n hc dX6_undo_54 rfl ?_
      refine G_get hc f_X6_36 0 rfl rfl dX6_undo_55 ?_
      have h := Option.some.inj h
      subst h
      exact G_ireturn hc ⟨rfl, rfl⟩ dX6_undo_58
    clear h
    have hL6 : ∀ (n7 : Nat) (u2 : Int32) (u3 : Nat → Int32), f_X6_undo_L22 F m_past v1 n7 u2 u3 = some e4 → G p l e (rmk 1) s m [.ref h_m].toArray below meth c D A 2 0 0 (QI below [.ref h_m].toArray s D A (PoI res.1 [(h_m, .inr (6, [.ref h_m_s, .ref h_m_past, .ref h_m_held, .int res.2.1, .int m_runs0, .ref h_m_text, .int m_typed, .ref h_m_now, .ref h_m_kept, .int m_spot, .int m_reason, .int m_cause, .int m_orders, .int m_kindNow, .int m_placeNow])), (h_m_s, .inl (cI, 116, .inl res.2.2)), (h_m_past, .inl (cI, 464, .inl m_past)), (h_m_held, .inl (cI, 116, .inl m_held)), (h_m_text, .inl (cI, 60, .inl m_text)), (h_m_now, .inl (cI, 10, .inl m_now)), (h_m_kept, .inl (cI, 16, .inl m_kept))])) [(h_m, .inr (6, [.ref h_m_s, .ref h_m_past, .ref h_m_held, .int v1, .int m_runs0, .ref h_m_text, .int m_typed, .ref h_m_now, .ref h_m_kept, .int m_spot, .int m_reason, .int m_cause, .int m_orders, .int m_kindNow, .int m_placeNow])), (h_m_s, .inl (cI, 116, .inl u3)), (h_m_past, .inl (cI, 464, .inl m_past)), (h_m_held, .inl (cI, 116, .inl m_held)), (h_m_text, .inl (cI, 60, .inl m_text)), (h_m_now, .inl (cI, 10, .inl m_now)), (h_m_kept, .inl (cI, 16, .inl m_kept))] [(0, .ref h_m), (1, .int u2)] 22 [] := by
      intro n7
      induction n7 with
      | zero =>
        intro u2 u3 h
        exact nz h
      | succ n7 ih8 =>
        intro u2 u3 h
        rw [f_X6_undo_L22] at h
        refine G_iload_n hc dX6_undo_22 rfl ?_
        refine G_bipush (v := 116) hc dX6_undo_23 (by decide) ?_
        refine G_icmp_ge (tgt := 54) hc dX6_undo_25 (by decide) (fun c13 => ?_) (fun c13 => ?_)
        · have h := ip h c13
          have h := Option.some.inj h
          subst h
          refine G_lv (lv' := [(0, .ref h_m)]) (lsame_cons rfl lsame_nil) ?_
          exact hK9
        · have h := inn h c13
          refine G_aload_n hc dX6_undo_28 rfl ?_
          refine G_get hc f_X6_7 0 rfl rfl dX6_undo_29 ?_
          refine G_iload_n hc dX6_undo_32 rfl ?_
          refine G_aload_n hc dX6_undo_33 rfl ?_
          refine G_get hc f_X6_13 0 rfl rfl dX6_undo_34 ?_
          refine G_bipush (v := 116) hc dX6_undo_37 (by decide) ?_
          refine G_aload_n hc dX6_undo_39 rfl ?_
          refine G_get hc f_X6_36 0 rfl rfl dX6_undo_40 ?_
          refine G_imul hc dX6_undo_43 ?_
          refine G_iload_n hc dX6_undo_44 rfl ?_
          refine G_iadd hc dX6_undo_45 ?_
          obtain ⟨v10, i_v10, e_v10, h⟩ := rb h
          refine G_iald hc 2 rfl i_v10 e_v10 dX6_undo_46 ?_
          obtain ⟨v11, i_v11, e_v11, h⟩ := wb h
          refine G_iast (ws' := [(h_m, .inr (6, [.ref h_m_s, .ref h_m_past, .ref h_m_held, .int v1, .int m_runs0, .ref h_m_text, .int m_typed, .ref h_m_now, .ref h_m_kept, .int m_spot, .int m_reason, .int m_cause, .int m_orders, .int m_kindNow, .int m_placeNow])), (h_m_s, .inl (cI, 116, .inl v11)), (h_m_past, .inl (cI, 464, .inl m_past)), (h_m_held, .inl (cI, 116, .inl m_held)), (h_m_text, .inl (cI, 60, .inl m_text)), (h_m_now, .inl (cI, 10, .inl m_now)), (h_m_kept, .inl (cI, 16, .inl m_kept))]) hc 1 rfl i_v11 e_v11 rfl dX6_undo_47 ?_
          obtain ⟨v12, e_v12, h⟩ := sb h
          refine G_iinc (v := v12) (lv' := [(0, .ref h_m), (1, .int v12)]) hc dX6_undo_48 rfl (e_v12.trans rfl) rfl rfl ?_
          refine G_goto (tgt := 22) hc dX6_undo_51 (by decide) ?_
          refine G_lv (lv' := [(0, .ref h_m), (1, .int v12)]) (lsame_cons rfl (lsame_cons rfl lsame_nil)) ?_
          exact ih8 _ _ h
    refine G_lv (lv' := [(0, .ref h_m), (1, .int (0 : Int32))]) (lsame_cons rfl (lsame_cons rfl lsame_nil)) ?_
    exact hL6 F _ _ hl5
  · have h := ip h c14
    refine G_ldc (v := -1000002) hc k_X6_49 dX6_undo_7 ?_
    have h := Option.some.inj h
    subst h
    exact G_ireturn hc ⟨rfl, rfl⟩ dX6_undo_9
set_option maxHeartbeats 4000000 in
set_option maxRecDepth 100000 in
theorem c_X6_type (l : Launch) (D : va_G) (cI cS : ClassId) (X : XP) (F : Nat) (h_m h_m_s h_m_past h_m_held h_m_text h_m_now h_m_kept : Nat) (m_pasts : Int32) (m_runs0 : Int32) (m_typed : Int32) (m_spot : Int32) (m_reason : Int32) (m_cause : Int32) (m_orders : Int32) (m_kindNow : Int32) (m_placeNow : Int32) (m_s : Nat → Int32) (m_past : Nat → Int32) (m_held : Nat → Int32) (m_text : Nat → Int32) (m_now : Nat → Int32) (m_kept : Nat → Int32) (a1 : Int32) {res : Int32 × Int32 × (Nat → Int32)} (h : f_X6_type F m_typed m_text a1 = some res) : CtI l D cI cS X yX6_type cX6_type 2 (some .int) 2 [.ref h_m, .int a1] [(h_m, .inr (6, [.ref h_m_s, .ref h_m_past, .ref h_m_held, .int m_pasts, .int m_runs0, .ref h_m_text, .int m_typed, .ref h_m_now, .ref h_m_kept, .int m_spot, .int m_reason, .int m_cause, .int m_orders, .int m_kindNow, .int m_placeNow])), (h_m_s, .inl (cI, 116, .inl m_s)), (h_m_past, .inl (cI, 464, .inl m_past)), (h_m_held, .inl (cI, 116, .inl m_held)), (h_m_text, .inl (cI, 60, .inl m_text)), (h_m_now, .inl (cI, 10, .inl m_now)), (h_m_kept, .inl (cI, 16, .inl m_kept))] (PoI res.1 [(h_m, .inr (6, [.ref h_m_s, .ref h_m_past, .ref h_m_held, .int m_pasts, .int m_runs0, .ref h_m_text, .int res.2.1, .ref h_m_now, .ref h_m_kept, .int m_spot, .int m_reason, .int m_cause, .int m_orders, .int m_kindNow, .int m_placeNow])), (h_m_s, .inl (cI, 116, .inl m_s)), (h_m_past, .inl (cI, 464, .inl m_past)), (h_m_held, .inl (cI, 116, .inl m_held)), (h_m_text, .inl (cI, 60, .inl res.2.2)), (h_m_now, .inl (cI, 10, .inl m_now)), (h_m_kept, .inl (cI, 16, .inl m_kept))]) := by
  refine CtI.of (by decide +kernel) rfl ?_
  intro p e s m below meth c A hc
  refine G_lv (lv' := [(0, .ref h_m), (1, .int a1)]) (lsame_cons rfl (lsame_cons rfl lsame_nil)) ?_
  unfold f_X6_type at h
  refine G_iload_n hc dX6_type_0 rfl ?_
  refine G_bipush (v := 32) hc dX6_type_1 (by decide) ?_
  refine G_bipush (v := 126) hc dX6_type_3 (by decide) ?_
  obtain ⟨z1, hu2, h⟩ := ob h
  refine G_callSI (ws2 := [(h_m, .inr (6, [.ref h_m_s, .ref h_m_past, .ref h_m_held, .int m_pasts, .int m_runs0, .ref h_m_text, .int m_typed, .ref h_m_now, .ref h_m_kept, .int m_spot, .int m_reason, .int m_cause, .int m_orders, .int m_kindNow, .int m_placeNow])), (h_m_s, .inl (cI, 116, .inl m_s)), (h_m_past, .inl (cI, 464, .inl m_past)), (h_m_held, .inl (cI, 116, .inl m_held)), (h_m_text, .inl (cI, 60, .inl m_text)), (h_m_now, .inl (cI, 10, .inl m_now)), (h_m_kept, .inl (cI, 16, .inl m_kept))]) hc m_X6_28 (c_X6_in l D cI cS X F a1 (32 : Int32) (126 : Int32) hu2) [] (rmok_of (Nat.le_of_ble_eq_true rfl)) ⟨Nat.zero_le _, Nat.zero_le _⟩ rfl rfl rfl rfl rfl ⟨rfl, rfl, rfl⟩ dX6_type_5 ?_
  refine G_if_ne (tgt := 14) hc dX6_type_8 (by decide) (fun c6 => ?_) (fun c6 => ?_)
  · have h := inn h c6
    refine G_aload_n hc dX6_type_14 rfl ?_
    refine G_get hc f_X6_119 0 rfl rfl dX6_type_15 ?_
    refine G_bipush (v := 60) hc dX6_type_18 (by decide) ?_
    refine G_icmp_ne (tgt := 26) hc dX6_type_20 (by decide) (fun c5 => ?_) (fun c5 => ?_)
    · have h := inn h c5
      refine G_aload_n hc dX6_type_26 rfl ?_
      refine G_get hc f_X6_19 0 rfl rfl dX6_type_27 ?_
      refine G_aload_n hc dX6_type_30 rfl ?_
      refine G_get hc f_X6_119 0 rfl rfl dX6_type_31 ?_
      refine G_iload_n hc dX6_type_34 rfl ?_
      obtain ⟨v3, i_v3, e_v3, h⟩ := wb h
      refine G_iast (ws' := [(h_m, .inr (6, [.ref h_m_s, .ref h_m_past, .ref h_m_held, .int m_pasts, .int m_runs0, .ref h_m_text, .int m_typed, .ref h_m_now, .ref h_m_kept, .int m_spot, .int m_reason, .int m_cause, .int m_orders, .int m_kindNow, .int m_placeNow])), (h_m_s, .inl (cI, 116, .inl m_s)), (h_m_past, .inl (cI, 464, .inl m_past)), (h_m_held, .inl (cI, 116, .inl m_held)), (h_m_text, .inl (cI, 60, .inl v3)), (h_m_now, .inl (cI, 10, .inl m_now)), (h_m_kept, .inl (cI, 16, .inl m_kept))]) hc 4 rfl i_v3 e_v3 rfl dX6_type_35 ?_
      refine G_aload_n hc dX6_type_36 rfl ?_
      refine G_dup hc dX6_type_37 rfl ?_
      refine G_get hc f_X6_119 0 rfl rfl dX6_type_38 ?_
      refine G_iconst (v := 1) hc dX6_type_41 (by decide) ?_
      refine G_iadd hc dX6_type_42 ?_
      obtain ⟨v4, e_v4, h⟩ := sb h
      refine G_top e_v4 ?_
      refine G_puti (ws' := [(h_m, .inr (6, [.ref h_m_s, .ref h_m_past, .ref h_m_held, .int m_pasts, .int m_runs0, .ref h_m_text, .int v4, .ref h_m_now, .ref h_m_kept, .int m_spot, .int m_reason, .int m_cause, .int m_orders, .int m_kindNow, .int m_placeNow])), (h_m_s, .inl (cI, 116, .inl m_s)), (h_m_past, .inl (cI, 464, .inl m_past)), (h_m_held, .inl (cI, 116, .inl m_held)), (h_m_text, .inl (cI, 60, .inl v3)), (h_m_now, .inl (cI, 10, .inl m_now)), (h_m_kept, .inl (cI, 16, .inl m_kept))]) hc f_X6_119 p_X6_6 0 rfl rfl rfl dX6_type_43 ?_
      refine G_aload_n hc dX6_type_46 rfl ?_
      refine G_get hc f_X6_119 0 rfl rfl dX6_type_47 ?_
      have h := Option.some.inj h
      subst h
      exact G_ireturn hc ⟨rfl, rfl⟩ dX6_type_50
    · have h := ip h c5
      refine G_ldc (v := -1000003) hc k_X6_45 dX6_type_23 ?_
      have h := Option.some.inj h
      subst h
      exact G_ireturn hc ⟨rfl, rfl⟩ dX6_type_25
  · have h := ip h c6
    refine G_ldc (v := -1000001) hc k_X6_44 dX6_type_11 ?_
    have h := Option.some.inj h
    subst h
    exact G_ireturn hc ⟨rfl, rfl⟩ dX6_type_13
set_option maxHeartbeats 4000000 in
set_option maxRecDepth 100000 in
theorem c_X6_clearText (l : Launch) (D : va_G) (cI cS : ClassId) (X : XP) (F : Nat) (h_m h_m_s h_m_past h_m_held h_m_text h_m_now h_m_kept : Nat) (m_pasts : Int32) (m_runs0 : Int32) (m_typed : Int32) (m_spot : Int32) (m_reason : Int32) (m_cause : Int32) (m_orders : Int32) (m_kindNow : Int32) (m_placeNow : Int32) (m_s : Nat → Int32) (m_past : Nat → Int32) (m_held : Nat → Int32) (m_text : Nat → Int32) (m_now : Nat → Int32) (m_kept : Nat → Int32) {res : Int32 × Int32} (h : f_X6_clearText F m_typed = some res) : CtI l D cI cS X yX6_clearText cX6_clearText 2 (some .int) 1 [.ref h_m] [(h_m, .inr (6, [.ref h_m_s, .ref h_m_past, .ref h_m_held, .int m_pasts, .int m_runs0, .ref h_m_text, .int m_typed, .ref h_m_now, .ref h_m_kept, .int m_spot, .int m_reason, .int m_cause, .int m_orders, .int m_kindNow, .int m_placeNow])), (h_m_s, .inl (cI, 116, .inl m_s)), (h_m_past, .inl (cI, 464, .inl m_past)), (h_m_held, .inl (cI, 116, .inl m_held)), (h_m_text, .inl (cI, 60, .inl m_text)), (h_m_now, .inl (cI, 10, .inl m_now)), (h_m_kept, .inl (cI, 16, .inl m_kept))] (PoI res.1 [(h_m, .inr (6, [.ref h_m_s, .ref h_m_past, .ref h_m_held, .int m_pasts, .int m_runs0, .ref h_m_text, .int res.2, .ref h_m_now, .ref h_m_kept, .int m_spot, .int m_reason, .int m_cause, .int m_orders, .int m_kindNow, .int m_placeNow])), (h_m_s, .inl (cI, 116, .inl m_s)), (h_m_past, .inl (cI, 464, .inl m_past)), (h_m_held, .inl (cI, 116, .inl m_held)), (h_m_text, .inl (cI, 60, .inl m_text)), (h_m_now, .inl (cI, 10, .inl m_now)), (h_m_kept, .inl (cI, 16, .inl m_kept))]) := by
  refine CtI.of (by decide +kernel) rfl ?_
  intro p e s m below meth c A hc
  refine G_lv (lv' := [(0, .ref h_m)]) (lsame_cons rfl lsame_nil) ?_
  unfold f_X6_clearText at h
  refine G_aload_n hc dX6_clearText_0 rfl ?_
  refine G_get hc f_X6_119 0 rfl rfl dX6_clearText_1 ?_
  refine G_istore_n (lv' := [(0, .ref h_m), (1, .int m_typed)]) hc dX6_clearText_4 rfl rfl ?_
  refine G_aload_n hc dX6_clearText_5 rfl ?_
  refine G_iconst (v := 0) hc dX6_clearText_6 (by decide) ?_
  refine G_puti (ws' := [(h_m, .inr (6, [.ref h_m_s, .ref h_m_past, .ref h_m_held, .int m_pasts, .int m_runs0, .ref h_m_text, .int (0 : Int32), .ref h_m_now, .ref h_m_kept, .int m_spot, .int m_reason, .int m_cause, .int m_orders, .int m_kindNow, .int m_placeNow])), (h_m_s, .inl (cI, 116, .inl m_s)), (h_m_past, .inl (cI, 464, .inl m_past)), (h_m_held, .inl (cI, 116, .inl m_held)), (h_m_text, .inl (cI, 60, .inl m_text)), (h_m_now, .inl (cI, 10, .inl m_now)), (h_m_kept, .inl (cI, 16, .inl m_kept))]) hc f_X6_119 p_X6_6 0 rfl rfl rfl dX6_clearText_7 ?_
  refine G_iload_n hc dX6_clearText_10 rfl ?_
  have h := Option.some.inj h
  subst h
  exact G_ireturn hc ⟨rfl, rfl⟩ dX6_clearText_11
set_option maxHeartbeats 4000000 in
set_option maxRecDepth 100000 in
theorem c_X6_isAt (l : Launch) (D : va_G) (cI cS : ClassId) (X : XP) (F : Nat) (h_m h_m_s h_m_past h_m_held h_m_text h_m_now h_m_kept : Nat) (m_pasts : Int32) (m_runs0 : Int32) (m_typed : Int32) (m_spot : Int32) (m_reason : Int32) (m_cause : Int32) (m_orders : Int32) (m_kindNow : Int32) (m_placeNow : Int32) (m_s : Nat → Int32) (m_past : Nat → Int32) (m_held : Nat → Int32) (m_text : Nat → Int32) (m_now : Nat → Int32) (m_kept : Nat → Int32) (a1 : Int32) (a2 : Int32) {res : Int32} (h : f_X6_isAt F m_typed m_spot m_text a1 a2 = some res) : CtI l D cI cS X yX6_isAt cX6_isAt 3 (some .boolean) 2 [.ref h_m, .int a1, .int a2] [(h_m, .inr (6, [.ref h_m_s, .ref h_m_past, .ref h_m_held, .int m_pasts, .int m_runs0, .ref h_m_text, .int m_typed, .ref h_m_now, .ref h_m_kept, .int m_spot, .int m_reason, .int m_cause, .int m_orders, .int m_kindNow, .int m_placeNow])), (h_m_s, .inl (cI, 116, .inl m_s)), (h_m_past, .inl (cI, 464, .inl m_past)), (h_m_held, .inl (cI, 116, .inl m_held)), (h_m_text, .inl (cI, 60, .inl m_text)), (h_m_now, .inl (cI, 10, .inl m_now)), (h_m_kept, .inl (cI, 16, .inl m_kept))] (PoI res [(h_m, .inr (6, [.ref h_m_s, .ref h_m_past, .ref h_m_held, .int m_pasts, .int m_runs0, .ref h_m_text, .int m_typed, .ref h_m_now, .ref h_m_kept, .int m_spot, .int m_reason, .int m_cause, .int m_orders, .int m_kindNow, .int m_placeNow])), (h_m_s, .inl (cI, 116, .inl m_s)), (h_m_past, .inl (cI, 464, .inl m_past)), (h_m_held, .inl (cI, 116, .inl m_held)), (h_m_text, .inl (cI, 60, .inl m_text)), (h_m_now, .inl (cI, 10, .inl m_now)), (h_m_kept, .inl (cI, 16, .inl m_kept))]) := by
  refine CtI.of (by decide +kernel) rfl ?_
  intro p e s m below meth c A hc
  refine G_lv (lv' := [(0, .ref h_m), (1, .int a1), (2, .int a2)]) (lsame_cons rfl (lsame_cons rfl (lsame_cons rfl lsame_nil))) ?_
  unfold f_X6_isAt at h
  refine G_aload_n hc dX6_isAt_0 rfl ?_
  refine G_get hc f_X6_122 0 rfl rfl dX6_isAt_1 ?_
  refine G_aload_n hc dX6_isAt_4 rfl ?_
  refine G_get hc f_X6_119 0 rfl rfl dX6_isAt_5 ?_
  obtain ⟨t1, hr3, h⟩ := ob h
  have hj2 : G p l e (rmk 2) s m [.ref h_m, .int a1, .int a2].toArray below meth c D A 3 0 0 (QI below [.ref h_m, .int a1, .int a2].toArray s D A (PoI res [(h_m, .inr (6, [.ref h_m_s, .ref h_m_past, .ref h_m_held, .int m_pasts, .int m_runs0, .ref h_m_text, .int m_typed, .ref h_m_now, .ref h_m_kept, .int m_spot, .int m_reason, .int m_cause, .int m_orders, .int m_kindNow, .int m_placeNow])), (h_m_s, .inl (cI, 116, .inl m_s)), (h_m_past, .inl (cI, 464, .inl m_past)), (h_m_held, .inl (cI, 116, .inl m_held)), (h_m_text, .inl (cI, 60, .inl m_text)), (h_m_now, .inl (cI, 10, .inl m_now)), (h_m_kept, .inl (cI, 16, .inl m_kept))])) [(h_m, .inr (6, [.ref h_m_s, .ref h_m_past, .ref h_m_held, .int m_pasts, .int m_runs0, .ref h_m_text, .int m_typed, .ref h_m_now, .ref h_m_kept, .int m_spot, .int m_reason, .int m_cause, .int m_orders, .int m_kindNow, .int m_placeNow])), (h_m_s, .inl (cI, 116, .inl m_s)), (h_m_past, .inl (cI, 464, .inl m_past)), (h_m_held, .inl (cI, 116, .inl m_held)), (h_m_text, .inl (cI, 60, .inl m_text)), (h_m_now, .inl (cI, 10, .inl m_now)), (h_m_kept, .inl (cI, 16, .inl m_kept))] [] 33 [.int t1] := by
    obtain ⟨hz9, h⟩ := zb h
    have h := Option.some.inj h
    subst h
    exact G_zreturn hc hz9 ⟨rfl, rfl⟩ dX6_isAt_33
  clear h
  have h := hr3
  clear hr3
  refine G_icmp_ge (tgt := 32) hc dX6_isAt_8 (by decide) (fun c8 => ?_) (fun c8 => ?_)
  · have h := ip h c8
    refine G_iconst (v := 0) hc dX6_isAt_32 (by decide) ?_
    have h := Option.some.inj h
    subst h
    refine G_lv (lv' := []) lsame_nil ?_
    exact hj2
  · have h := inn h c8
    refine G_aload_n hc dX6_isAt_11 rfl ?_
    refine G_get hc f_X6_19 0 rfl rfl dX6_isAt_12 ?_
    refine G_aload_n hc dX6_isAt_15 rfl ?_
    refine G_get hc f_X6_122 0 rfl rfl dX6_isAt_16 ?_
    obtain ⟨v4, i_v4, e_v4, h⟩ := rb h
    refine G_iald hc 4 rfl i_v4 e_v4 dX6_isAt_19 ?_
    refine G_iload_n hc dX6_isAt_20 rfl ?_
    refine G_iload_n hc dX6_isAt_21 rfl ?_
    obtain ⟨z5, hu6, h⟩ := ob h
    refine G_callSI (ws2 := [(h_m, .inr (6, [.ref h_m_s, .ref h_m_past, .ref h_m_held, .int m_pasts, .int m_runs0, .ref h_m_text, .int m_typed, .ref h_m_now, .ref h_m_kept, .int m_spot, .int m_reason, .int m_cause, .int m_orders, .int m_kindNow, .int m_placeNow])), (h_m_s, .inl (cI, 116, .inl m_s)), (h_m_past, .inl (cI, 464, .inl m_past)), (h_m_held, .inl (cI, 116, .inl m_held)), (h_m_text, .inl (cI, 60, .inl m_text)), (h_m_now, .inl (cI, 10, .inl m_now)), (h_m_kept, .inl (cI, 16, .inl m_kept))]) hc m_X6_28 (c_X6_in l D cI cS X F v4 a1 a2 hu6) [] (rmok_of (Nat.le_of_ble_eq_true rfl)) ⟨Nat.zero_le _, Nat.zero_le _⟩ rfl rfl rfl rfl rfl ⟨rfl, rfl, rfl⟩ dX6_isAt_22 ?_
    refine G_if_eq (tgt := 32) hc dX6_isAt_25 (by decide) (fun c7 => ?_) (fun c7 => ?_)
    · have h := ip h c7
      refine G_iconst (v := 0) hc dX6_isAt_32 (by decide) ?_
      have h := Option.some.inj h
      subst h
      refine G_lv (lv' := []) lsame_nil ?_
      exact hj2
    · have h := inn h c7
      refine G_iconst (v := 1) hc dX6_isAt_28 (by decide) ?_
      refine G_goto (tgt := 33) hc dX6_isAt_29 (by decide) ?_
      have h := Option.some.inj h
      subst h
      refine G_lv (lv' := []) lsame_nil ?_
      exact hj2
