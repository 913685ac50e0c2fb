set_option maxHeartbeats 4000000 in
set_option maxRecDepth 100000 in
theorem c_X6_isOne (l : Launch) (D : va_G) (cI cS : ClassId) (X : XP) (F : Nat) (h_m h_m_s h_m_past h_m_held h_m_text h_m_now h_m_kept : Nat) (m_pasts : Int32) (m_runs0 : Int32) (m_typed : Int32) (m_spot : Int32) (m_reason : Int32) (m_cause : Int32) (m_orders : Int32) (m_kindNow : Int32) (m_placeNow : Int32) (m_s : Nat → Int32) (m_past : Nat → Int32) (m_held : Nat → Int32) (m_text : Nat → Int32) (m_now : Nat → Int32) (m_kept : Nat → Int32) (a1 : Int32) {res : Int32} (h : f_X6_isOne F m_s m_now m_kept a1 = some res) : CtI l D cI cS X yX6_isOne cX6_isOne 2 (some .boolean) 3 [.ref h_m, .int a1] [(h_m, .inr (6, [.ref h_m_s, .ref h_m_past, .ref h_m_held, .int m_pasts, .int m_runs0, .ref h_m_text, .int m_typed, .ref h_m_now, .ref h_m_kept, .int m_spot, .int m_reason, .int m_cause, .int m_orders, .int m_kindNow, .int m_placeNow])), (h_m_s, .inl (cI, 116, .inl m_s)), (h_m_past, .inl (cI, 464, .inl m_past)), (h_m_held, .inl (cI, 116, .inl m_held)), (h_m_text, .inl (cI, 60, .inl m_text)), (h_m_now, .inl (cI, 10, .inl m_now)), (h_m_kept, .inl (cI, 16, .inl m_kept))] (PoI res [(h_m, .inr (6, [.ref h_m_s, .ref h_m_past, .ref h_m_held, .int m_pasts, .int m_runs0, .ref h_m_text, .int m_typed, .ref h_m_now, .ref h_m_kept, .int m_spot, .int m_reason, .int m_cause, .int m_orders, .int m_kindNow, .int m_placeNow])), (h_m_s, .inl (cI, 116, .inl m_s)), (h_m_past, .inl (cI, 464, .inl m_past)), (h_m_held, .inl (cI, 116, .inl m_held)), (h_m_text, .inl (cI, 60, .inl m_text)), (h_m_now, .inl (cI, 10, .inl m_now)), (h_m_kept, .inl (cI, 16, .inl m_kept))]) := by
  refine CtI.of (by decide +kernel) rfl ?_
  intro p e s m below meth c A hc
  refine G_lv (lv' := [(0, .ref h_m), (1, .int a1)]) (lsame_cons rfl (lsame_cons rfl lsame_nil)) ?_
  unfold f_X6_isOne at h
  refine G_iload_n hc dX6_isOne_0 rfl ?_
  refine G_if_ne (tgt := 6) hc dX6_isOne_1 (by decide) (fun c24 => ?_) (fun c24 => ?_)
  · have h := inn h c24
    refine G_iload_n hc dX6_isOne_6 rfl ?_
    refine G_iconst (v := 3) hc dX6_isOne_7 (by decide) ?_
    refine G_icmp_ne (tgt := 16) hc dX6_isOne_8 (by decide) (fun c23 => ?_) (fun c23 => ?_)
    · have h := inn h c23
      refine G_iload_n hc dX6_isOne_16 rfl ?_
      refine G_iconst (v := 1) hc dX6_isOne_17 (by decide) ?_
      obtain ⟨t1, hr3, h⟩ := ob h
      have hj2 : G p l e (rmk 3) s m [.ref h_m, .int a1].toArray below meth c D A 2 0 0 (QI below [.ref h_m, .int a1].toArray s D A (PoI res [(h_m, .inr (6, [.ref h_m_s, .ref h_m_past, .ref h_m_held, .int m_pasts, .int m_runs0, .ref h_m_text, .int m_typed, .ref h_m_now, .ref h_m_kept, .int m_spot, .int m_reason, .int m_cause, .int m_orders, .int m_kindNow, .int m_placeNow])), (h_m_s, .inl (cI, 116, .inl m_s)), (h_m_past, .inl (cI, 464, .inl m_past)), (h_m_held, .inl (cI, 116, .inl m_held)), (h_m_text, .inl (cI, 60, .inl m_text)), (h_m_now, .inl (cI, 10, .inl m_now)), (h_m_kept, .inl (cI, 16, .inl m_kept))])) [(h_m, .inr (6, [.ref h_m_s, .ref h_m_past, .ref h_m_held, .int m_pasts, .int m_runs0, .ref h_m_text, .int m_typed, .ref h_m_now, .ref h_m_kept, .int m_spot, .int m_reason, .int m_cause, .int m_orders, .int m_kindNow, .int m_placeNow])), (h_m_s, .inl (cI, 116, .inl m_s)), (h_m_past, .inl (cI, 464, .inl m_past)), (h_m_held, .inl (cI, 116, .inl m_held)), (h_m_text, .inl (cI, 60, .inl m_text)), (h_m_now, .inl (cI, 10, .inl m_now)), (h_m_kept, .inl (cI, 16, .inl m_kept))] [] 57 [.int t1] := by
        obtain ⟨hz19, h⟩ := zb h
        have h := Option.some.inj h
        subst h
        exact G_zreturn hc hz19 ⟨rfl, rfl⟩ dX6_isOne_57
      clear h
      have h := hr3
      clear hr3
      refine G_icmp_eq (tgt := 45) hc dX6_isOne_18 (by decide) (fun c18 => ?_) (fun c18 => ?_)
      · have h := ip h c18
        refine G_aload_n hc dX6_isOne_45 rfl ?_
        obtain ⟨z4, hu5, h⟩ := ob h
        refine G_callVI (ws2 := [(h_m, .inr (6, [.ref h_m_s, .ref h_m_past, .ref h_m_held, .int m_pasts, .int m_runs0, .ref h_m_text, .int m_typed, .ref h_m_now, .ref h_m_kept, .int m_spot, .int m_reason, .int m_cause, .int m_orders, .int m_kindNow, .int m_placeNow])), (h_m_s, .inl (cI, 116, .inl m_s)), (h_m_past, .inl (cI, 464, .inl m_past)), (h_m_held, .inl (cI, 116, .inl m_held)), (h_m_text, .inl (cI, 60, .inl m_text)), (h_m_now, .inl (cI, 10, .inl m_now)), (h_m_kept, .inl (cI, 16, .inl m_kept))]) hc m_X6_78 (c_X6_keepsPairs l D cI cS X F h_m h_m_s h_m_past h_m_held h_m_text h_m_now h_m_kept m_pasts m_runs0 m_typed m_spot m_reason m_cause m_orders m_kindNow m_placeNow m_s m_past m_held m_text m_now m_kept hu5) 0 [0, 1, 2, 3, 4, 5, 6] rfl rfl (rmok_of (Nat.le_of_ble_eq_true rfl)) ⟨Nat.zero_le _, Nat.zero_le _⟩ rfl rfl rfl rfl rfl ⟨rfl, rfl, rfl⟩ dX6_isOne_46 ?_
        refine G_if_eq (tgt := 56) hc dX6_isOne_49 (by decide) (fun c6 => ?_) (fun c6 => ?_)
        · have h := ip h c6
          refine G_iconst (v := 0) hc dX6_isOne_56 (by decide) ?_
          have h := Option.some.inj h
          subst h
          refine G_lv (lv' := []) lsame_nil ?_
          exact hj2
        · have h := inn h c6
          refine G_iconst (v := 1) hc dX6_isOne_52 (by decide) ?_
          refine G_goto (tgt := 57) hc dX6_isOne_53 (by decide) ?_
          have h := Option.some.inj h
          subst h
          refine G_lv (lv' := []) lsame_nil ?_
          exact hj2
      · have h := inn h c18
        refine G_aload_n hc dX6_isOne_21 rfl ?_
        refine G_get hc f_X6_7 0 rfl rfl dX6_isOne_22 ?_
        refine G_iconst (v := 0) hc dX6_isOne_25 (by decide) ?_
        obtain ⟨v7, i_v7, e_v7, h⟩ := rb h
        refine G_iald hc 1 rfl i_v7 e_v7 dX6_isOne_26 ?_
        refine G_if_eq (tgt := 45) hc dX6_isOne_27 (by decide) (fun c17 => ?_) (fun c17 => ?_)
        · have h := ip h c17
          refine G_aload_n hc dX6_isOne_45 rfl ?_
          obtain ⟨z8, hu9, h⟩ := ob h
          refine G_callVI (ws2 := [(h_m, .inr (6, [.ref h_m_s, .ref h_m_past, .ref h_m_held, .int m_pasts, .int m_runs0, .ref h_m_text, .int m_typed, .ref h_m_now, .ref h_m_kept, .int m_spot, .int m_reason, .int m_cause, .int m_orders, .int m_kindNow, .int m_placeNow])), (h_m_s, .inl (cI, 116, .inl m_s)), (h_m_past, .inl (cI, 464, .inl m_past)), (h_m_held, .inl (cI, 116, .inl m_held)), (h_m_text, .inl (cI, 60, .inl m_text)), (h_m_now, .inl (cI, 10, .inl m_now)), (h_m_kept, .inl (cI, 16, .inl m_kept))]) hc m_X6_78 (c_X6_keepsPairs l D cI cS X F h_m h_m_s h_m_past h_m_held h_m_text h_m_now h_m_kept m_pasts m_runs0 m_typed m_spot m_reason m_cause m_orders m_kindNow m_placeNow m_s m_past m_held m_text m_now m_kept hu9) 0 [0, 1, 2, 3, 4, 5, 6] rfl rfl (rmok_of (Nat.le_of_ble_eq_true rfl)) ⟨Nat.zero_le _, Nat.zero_le _⟩ rfl rfl rfl rfl rfl ⟨rfl, rfl, rfl⟩ dX6_isOne_46 ?_
          refine G_if_eq (tgt := 56) hc dX6_isOne_49 (by decide) (fun c10 => ?_) (fun c10 => ?_)
          · have h := ip h c10
            refine G_iconst (v := 0) hc dX6_isOne_56 (by decide) ?_
            have h := Option.some.inj h
            subst h
            refine G_lv (lv' := []) lsame_nil ?_
            exact hj2
          · have h := inn h c10
            refine G_iconst (v := 1) hc dX6_isOne_52 (by decide) ?_
            refine G_goto (tgt := 57) hc dX6_isOne_53 (by decide) ?_
            have h := Option.some.inj h
            subst h
            refine G_lv (lv' := []) lsame_nil ?_
            exact hj2
        · have h := inn h c17
          refine G_aload_n hc dX6_isOne_30 rfl ?_
          refine G_get hc f_X6_22 0 rfl rfl dX6_isOne_31 ?_
          refine G_iconst (v := 0) hc dX6_isOne_34 (by decide) ?_
          obtain ⟨v11, i_v11, e_v11, h⟩ := rb h
          refine G_iald hc 5 rfl i_v11 e_v11 dX6_isOne_35 ?_
          refine G_aload_n hc dX6_isOne_36 rfl ?_
          refine G_get hc f_X6_7 0 rfl rfl dX6_isOne_37 ?_
          refine G_iconst (v := 1) hc dX6_isOne_40 (by decide) ?_
          obtain ⟨v12, i_v12, e_v12, h⟩ := rb h
          refine G_iald hc 1 rfl i_v12 e_v12 dX6_isOne_41 ?_
          refine G_icmp_ne (tgt := 56) hc dX6_isOne_42 (by decide) (fun c16 => ?_) (fun c16 => ?_)
          · have h := inn h c16
            refine G_iconst (v := 0) hc dX6_isOne_56 (by decide) ?_
            have h := Option.some.inj h
            subst h
            refine G_lv (lv' := []) lsame_nil ?_
            exact hj2
          · have h := ip h c16
            refine G_aload_n hc dX6_isOne_45 rfl ?_
            obtain ⟨z13, hu14, h⟩ := ob h
            refine G_callVI (ws2 := [(h_m, .inr (6, [.ref h_m_s, .ref h_m_past, .ref h_m_held, .int m_pasts, .int m_runs0, .ref h_m_text, .int m_typed, .ref h_m_now, .ref h_m_kept, .int m_spot, .int m_reason, .int m_cause, .int m_orders, .int m_kindNow, .int m_placeNow])), (h_m_s, .inl (cI, 116, .inl m_s)), (h_m_past, .inl (cI, 464, .inl m_past)), (h_m_held, .inl (cI, 116, .inl m_held)), (h_m_text, .inl (cI, 60, .inl m_text)), (h_m_now, .inl (cI, 10, .inl m_now)), (h_m_kept, .inl (cI, 16, .inl m_kept))]) hc m_X6_78 (c_X6_keepsPairs l D cI cS X F h_m h_m_s h_m_past h_m_held h_m_text h_m_now h_m_kept m_pasts m_runs0 m_typed m_spot m_reason m_cause m_orders m_kindNow m_placeNow m_s m_past m_held m_text m_now m_kept hu14) 0 [0, 1, 2, 3, 4, 5, 6] rfl rfl (rmok_of (Nat.le_of_ble_eq_true rfl)) ⟨Nat.zero_le _, Nat.zero_le _⟩ rfl rfl rfl rfl rfl ⟨rfl, rfl, rfl⟩ dX6_isOne_46 ?_
            refine G_if_eq (tgt := 56) hc dX6_isOne_49 (by decide) (fun c15 => ?_) (fun c15 => ?_)
            · have h := ip h c15
              refine G_iconst (v := 0) hc dX6_isOne_56 (by decide) ?_
              have h := Option.some.inj h
              subst h
              refine G_lv (lv' := []) lsame_nil ?_
              exact hj2
            · have h := inn h c15
              refine G_iconst (v := 1) hc dX6_isOne_52 (by decide) ?_
              refine G_goto (tgt := 57) hc dX6_isOne_53 (by decide) ?_
              have h := Option.some.inj h
              subst h
              refine G_lv (lv' := []) lsame_nil ?_
              exact hj2
    · have h := ip h c23
      refine G_aload_n hc dX6_isOne_11 rfl ?_
      obtain ⟨z20, hu21, h⟩ := ob h
      refine G_callVI (ws2 := [(h_m, .inr (6, [.ref h_m_s, .ref h_m_past, .ref h_m_held, .int m_pasts, .int m_runs0, .ref h_m_text, .int m_typed, .ref h_m_now, .ref h_m_kept, .int m_spot, .int m_reason, .int m_cause, .int m_orders, .int m_kindNow, .int m_placeNow])), (h_m_s, .inl (cI, 116, .inl m_s)), (h_m_past, .inl (cI, 464, .inl m_past)), (h_m_held, .inl (cI, 116, .inl m_held)), (h_m_text, .inl (cI, 60, .inl m_text)), (h_m_now, .inl (cI, 10, .inl m_now)), (h_m_kept, .inl (cI, 16, .inl m_kept))]) hc m_X6_74 (c_X6_keepsCodes l D cI cS X F h_m h_m_s h_m_past h_m_held h_m_text h_m_now h_m_kept m_pasts m_runs0 m_typed m_spot m_reason m_cause m_orders m_kindNow m_placeNow m_s m_past m_held m_text m_now m_kept hu21) 0 [0, 1, 2, 3, 4, 5, 6] rfl rfl (rmok_of (Nat.le_of_ble_eq_true rfl)) ⟨Nat.zero_le _, Nat.zero_le _⟩ rfl rfl rfl rfl rfl ⟨rfl, rfl, rfl⟩ dX6_isOne_12 ?_
      obtain ⟨hz22, h⟩ := zb h
      have h := Option.some.inj h
      subst h
      exact G_zreturn hc hz22 ⟨rfl, rfl⟩ dX6_isOne_15
  · have h := ip h c24
    refine G_iconst (v := 1) hc dX6_isOne_4 (by decide) ?_
    have h := Option.some.inj h
    subst h
    exact G_zreturn hc (by decide) ⟨rfl, rfl⟩ dX6_isOne_5
set_option maxHeartbeats 4000000 in
set_option maxRecDepth 100000 in
theorem c_X6_same (l : Launch) (D : va_G) (cI cS : ClassId) (X : XP) (F : Nat) (h_m h_m_s h_m_past h_m_held h_m_text h_m_now h_m_kept : Nat) (m_pasts : Int32) (m_runs0 : Int32) (m_typed : Int32) (m_spot : Int32) (m_reason : Int32) (m_cause : Int32) (m_orders : Int32) (m_kindNow : Int32) (m_placeNow : Int32) (m_s : Nat → Int32) (m_past : Nat → Int32) (m_held : Nat → Int32) (m_text : Nat → Int32) (m_now : Nat → Int32) (m_kept : Nat → Int32) {res : Int32} (h : f_X6_same F m_s m_now = some res) : CtI l D cI cS X yX6_same cX6_same 3 (some .int) 1 [.ref h_m] [(h_m, .inr (6, [.ref h_m_s, .ref h_m_past, .ref h_m_held, .int m_pasts, .int m_runs0, .ref h_m_text, .int m_typed, .ref h_m_now, .ref h_m_kept, .int m_spot, .int m_reason, .int m_cause, .int m_orders, .int m_kindNow, .int m_placeNow])), (h_m_s, .inl (cI, 116, .inl m_s)), (h_m_past, .inl (cI, 464, .inl m_past)), (h_m_held, .inl (cI, 116, .inl m_held)), (h_m_text, .inl (cI, 60, .inl m_text)), (h_m_now, .inl (cI, 10, .inl m_now)), (h_m_kept, .inl (cI, 16, .inl m_kept))] (PoI res [(h_m, .inr (6, [.ref h_m_s, .ref h_m_past, .ref h_m_held, .int m_pasts, .int m_runs0, .ref h_m_text, .int m_typed, .ref h_m_now, .ref h_m_kept, .int m_spot, .int m_reason, .int m_cause, .int m_orders, .int m_kindNow, .int m_placeNow])), (h_m_s, .inl (cI, 116, .inl m_s)), (h_m_past, .inl (cI, 464, .inl m_past)), (h_m_held, .inl (cI, 116, .inl m_held)), (h_m_text, .inl (cI, 60, .inl m_text)), (h_m_now, .inl (cI, 10, .inl m_now)), (h_m_kept, .inl (cI, 16, .inl m_kept))]) := by
  refine CtI.of (by decide +kernel) rfl ?_
  intro p e s m below meth c A hc
  refine G_lv (lv' := [(0, .ref h_m)]) (lsame_cons rfl lsame_nil) ?_
  unfold f_X6_same at h
  refine G_iconst (v := 0) hc dX6_same_0 (by decide) ?_
  refine G_istore_n (lv' := [(0, .ref h_m), (1, .int (0 : Int32))]) hc dX6_same_1 rfl rfl ?_
  refine G_iconst (v := 0) hc dX6_same_2 (by decide) ?_
  refine G_istore_n (lv' := [(0, .ref h_m), (1, .int (0 : Int32)), (2, .int (0 : Int32))]) hc dX6_same_3 rfl rfl ?_
  obtain ⟨e3, hl4, h⟩ := ob h
  have hK8 : G p l e (rmk 1) s m [.ref h_m].toArray below meth c D A 3 0 0 (QI below [.ref h_m].toArray s D A (PoI res [(h_m, .inr (6, [.ref h_m_s, .ref h_m_past, .ref h_m_held, .int m_pasts, .int m_runs0, .ref h_m_text, .int m_typed, .ref h_m_now, .ref h_m_kept, .int m_spot, .int m_reason, .int m_cause, .int m_orders, .int m_kindNow, .int m_placeNow])), (h_m_s, .inl (cI, 116, .inl m_s)), (h_m_past, .inl (cI, 464, .inl m_past)), (h_m_held, .inl (cI, 116, .inl m_held)), (h_m_text, .inl (cI, 60, .inl m_text)), (h_m_now, .inl (cI, 10, .inl m_now)), (h_m_kept, .inl (cI, 16, .inl m_kept))])) [(h_m, .inr (6, [.ref h_m_s, .ref h_m_past, .ref h_m_held, .int m_pasts, .int m_runs0, .ref h_m_text, .int m_typed, .ref h_m_now, .ref h_m_kept, .int m_spot, .int m_reason, .int m_cause, .int m_orders, .int m_kindNow, .int m_placeNow])), (h_m_s, .inl (cI, 116, .inl m_s)), (h_m_past, .inl (cI, 464, .inl m_past)), (h_m_held, .inl (cI, 116, .inl m_held)), (h_m_text, .inl (cI, 60, .inl m_text)), (h_m_now, .inl (cI, 10, .inl m_now)), (h_m_kept, .inl (cI, 16, .inl m_kept))] [(1, .int e3)] 45 [] := by
    refine G_iload_n hc dX6_same_45 rfl ?_
    have h := Option.some.inj h
    subst h
    exact G_ireturn hc ⟨rfl, rfl⟩ dX6_same_46
  clear h
  have hL5 : ∀ (n6 : Nat) (u1 : Int32) (u2 : Int32), f_X6_same_L4 F m_s m_now n6 u1 u2 = some e3 → G p l e (rmk 1) s m [.ref h_m].toArray below meth c D A 3 0 0 (QI below [.ref h_m].toArray s D A (PoI res [(h_m, .inr (6, [.ref h_m_s, .ref h_m_past, .ref h_m_held, .int m_pasts, .int m_runs0, .ref h_m_text, .int m_typed, .ref h_m_now, .ref h_m_kept, .int m_spot, .int m_reason, .int m_cause, .int m_orders, .int m_kindNow, .int m_placeNow])), (h_m_s, .inl (cI, 116, .inl m_s)), (h_m_past, .inl (cI, 464, .inl m_past)), (h_m_held, .inl (cI, 116, .inl m_held)), (h_m_text, .inl (cI, 60, .inl m_text)), (h_m_now, .inl (cI, 10, .inl m_now)), (h_m_kept, .inl (cI, 16, .inl m_kept))])) [(h_m, .inr (6, [.ref h_m_s, .ref h_m_past, .ref h_m_held, .int m_pasts, .int m_runs0, .ref h_m_text, .int m_typed, .ref h_m_now, .ref h_m_kept, .int m_spot, .int m_reason, .int m_cause, .int m_orders, .int m_kindNow, .int m_placeNow])), (h_m_s, .inl (cI, 116, .inl m_s)), (h_m_past, .inl (cI, 464, .inl m_past)), (h_m_held, .inl (cI, 116, .inl m_held)), (h_m_text, .inl (cI, 60, .inl m_text)), (h_m_now, .inl (cI, 10, .inl m_now)), (h_m_kept, .inl (cI, 16, .inl m_kept))] [(0, .ref h_m), (1, .int u1), (2, .int u2)] 4 [] := by
    intro n6
    induction n6 with
    | zero =>
      intro u1 u2 h
      exact nz h
    | succ n6 ih7 =>
      intro u1 u2 h
      rw [f_X6_same_L4] at h
      refine G_iload_n hc dX6_same_4 rfl ?_
      refine G_aload_n hc dX6_same_5 rfl ?_
      refine G_get hc f_X6_7 0 rfl rfl dX6_same_6 ?_
      refine G_iconst (v := 0) hc dX6_same_9 (by decide) ?_
      obtain ⟨v9, i_v9, e_v9, h⟩ := rb h
      refine G_iald hc 1 rfl i_v9 e_v9 dX6_same_10 ?_
      refine G_icmp_ge (tgt := 45) hc dX6_same_11 (by decide) (fun c18 => ?_) (fun c18 => ?_)
      · have h := ip h c18
        have h := Option.some.inj h
        subst h
        refine G_lv (lv' := [(1, .int u1)]) (lsame_cons rfl lsame_nil) ?_
        exact hK8
      · have h := inn h c18
        refine G_iload_n hc dX6_same_14 rfl ?_
        refine G_aload_n hc dX6_same_15 rfl ?_
        refine G_get hc f_X6_22 0 rfl rfl dX6_same_16 ?_
        refine G_iload_n hc dX6_same_19 rfl ?_
        obtain ⟨v10, i_v10, e_v10, h⟩ := rb h
        refine G_iald hc 5 rfl i_v10 e_v10 dX6_same_20 ?_
        refine G_aload_n hc dX6_same_21 rfl ?_
        refine G_get hc f_X6_7 0 rfl rfl dX6_same_22 ?_
        refine G_iconst (v := 1) hc dX6_same_25 (by decide) ?_
        refine G_iload_n hc dX6_same_26 rfl ?_
        refine G_iadd hc dX6_same_27 ?_
        obtain ⟨v11, i_v11, e_v11, h⟩ := rb h
        refine G_iald hc 1 rfl i_v11 e_v11 dX6_same_28 ?_
        obtain ⟨t12, hr14, h⟩ := ob h
        have hj13 : G p l e (rmk 1) s m [.ref h_m].toArray below meth c D A 3 0 0 (QI below [.ref h_m].toArray s D A (PoI res [(h_m, .inr (6, [.ref h_m_s, .ref h_m_past, .ref h_m_held, .int m_pasts, .int m_runs0, .ref h_m_text, .int m_typed, .ref h_m_now, .ref h_m_kept, .int m_spot, .int m_reason, .int m_cause, .int m_orders, .int m_kindNow, .int m_placeNow])), (h_m_s, .inl (cI, 116, .inl m_s)), (h_m_past, .inl (cI, 464, .inl m_past)), (h_m_held, .inl (cI, 116, .inl m_held)), (h_m_text, .inl (cI, 60, .inl m_text)), (h_m_now, .inl (cI, 10, .inl m_now)), (h_m_kept, .inl (cI, 16, .inl m_kept))])) [(h_m, .inr (6, [.ref h_m_s, .ref h_m_past, .ref h_m_held, .int m_pasts, .int m_runs0, .ref h_m_text, .int m_typed, .ref h_m_now, .ref h_m_kept, .int m_spot, .int m_reason, .int m_cause, .int m_orders, .int m_kindNow, .int m_placeNow])), (h_m_s, .inl (cI, 116, .inl m_s)), (h_m_past, .inl (cI, 464, .inl m_past)), (h_m_held, .inl (cI, 116, .inl m_held)), (h_m_text, .inl (cI, 60, .inl m_text)), (h_m_now, .inl (cI, 10, .inl m_now)), (h_m_kept, .inl (cI, 16, .inl m_kept))] [(0, .ref h_m), (2, .int u2)] 37 [.int t12, .int u1] := by
          refine G_iadd hc dX6_same_37 ?_
          obtain ⟨v16, e_v16, h⟩ := sb h
          refine G_top e_v16 ?_
          refine G_istore_n (lv' := [(0, .ref h_m), (2, .int u2), (1, .int v16)]) hc dX6_same_38 rfl rfl ?_
          obtain ⟨v17, e_v17, h⟩ := sb h
          refine G_iinc (v := v17) (lv' := [(0, .ref h_m), (2, .int v17), (1, .int v16)]) hc dX6_same_39 rfl (e_v17.trans rfl) rfl rfl ?_
          refine G_goto (tgt := 4) hc dX6_same_42 (by decide) ?_
          refine G_lv (lv' := [(0, .ref h_m), (1, .int v16), (2, .int v17)]) (lsame_cons rfl (lsame_cons rfl (lsame_cons rfl lsame_nil))) ?_
          exact ih7 _ _ h
        clear h
        have h := hr14
        clear hr14
        refine G_icmp_ne (tgt := 36) hc dX6_same_29 (by decide) (fun c15 => ?_) (fun c15 => ?_)
        · have h := inn h c15
          refine G_iconst (v := 0) hc dX6_same_36 (by decide) ?_
          have h := Option.some.inj h
          subst h
          refine G_lv (lv' := [(0, .ref h_m), (2, .int u2)]) (lsame_cons rfl (lsame_cons rfl lsame_nil)) ?_
          exact hj13
        · have h := ip h c15
          refine G_iconst (v := 1) hc dX6_same_32 (by decide) ?_
          refine G_goto (tgt := 37) hc dX6_same_33 (by decide) ?_
          have h := Option.some.inj h
          subst h
          refine G_lv (lv' := [(0, .ref h_m), (2, .int u2)]) (lsame_cons rfl (lsame_cons rfl lsame_nil)) ?_
          exact hj13
  refine G_lv (lv' := [(0, .ref h_m), (1, .int (0 : Int32)), (2, .int (0 : Int32))]) (lsame_cons rfl (lsame_cons rfl (lsame_cons rfl lsame_nil))) ?_
  exact hL5 F _ _ hl4
set_option maxHeartbeats 4000000 in
set_option maxRecDepth 100000 in
theorem c_X6_shuffles (l : Launch) (D : va_G) (cI cS : ClassId) (X : XP) (F : Nat) (h_m h_m_s h_m_past h_m_held h_m_text h_m_now h_m_kept : Nat) (m_pasts : Int32) (m_runs0 : Int32) (m_typed : Int32) (m_spot : Int32) (m_reason : Int32) (m_cause : Int32) (m_orders : Int32) (m_kindNow : Int32) (m_placeNow : Int32) (m_s : Nat → Int32) (m_past : Nat → Int32) (m_held : Nat → Int32) (m_text : Nat → Int32) (m_now : Nat → Int32) (m_kept : Nat → Int32) (a1 : Int32) {res : Int32 × (Nat → Int32) × (Nat → Int32)} (h : f_X6_shuffles F m_s m_now m_kept a1 = some res) : CtI l D cI cS X yX6_shuffles cX6_shuffles 4 (some .int) 4 [.ref h_m, .int a1] [(h_m, .inr (6, [.ref h_m_s, .ref h_m_past, .ref h_m_held, .int m_pasts, .int m_runs0, .ref h_m_text, .int m_typed, .ref h_m_now, .ref h_m_kept, .int m_spot, .int m_reason, .int m_cause, .int m_orders, .int m_kindNow, .int m_placeNow])), (h_m_s, .inl (cI, 116, .inl m_s)), (h_m_past, .inl (cI, 464, .inl m_past)), (h_m_held, .inl (cI, 116, .inl m_held)), (h_m_text, .inl (cI, 60, .inl m_text)), (h_m_now, .inl (cI, 10, .inl m_now)), (h_m_kept, .inl (cI, 16, .inl m_kept))] (PoI res.1 [(h_m, .inr (6, [.ref h_m_s, .ref h_m_past, .ref h_m_held, .int m_pasts, .int m_runs0, .ref h_m_text, .int m_typed, .ref h_m_now, .ref h_m_kept, .int m_spot, .int m_reason, .int m_cause, .int m_orders, .int m_kindNow, .int m_placeNow])), (h_m_s, .inl (cI, 116, .inl m_s)), (h_m_past, .inl (cI, 464, .inl m_past)), (h_m_held, .inl (cI, 116, .inl m_held)), (h_m_text, .inl (cI, 60, .inl m_text)), (h_m_now, .inl (cI, 10, .inl res.2.1)), (h_m_kept, .inl (cI, 16, .inl res.2.2))]) := by
  refine CtI.of (by decide +kernel) rfl ?_
  intro p e s m below meth c A hc
  refine G_lv (lv' := [(0, .ref h_m), (1, .int a1)]) (lsame_cons rfl (lsame_cons rfl lsame_nil)) ?_
  unfold f_X6_shuffles at h
  refine G_iload_n hc dX6_shuffles_0 rfl ?_
  obtain ⟨z1, hu2, h⟩ := ob h
  refine G_callSI (ws2 := [(h_m, .inr (6, [.ref h_m_s, .ref h_m_past, .ref h_m_held, .int m_pasts, .int m_runs0, .ref h_m_text, .int m_typed, .ref h_m_now, .ref h_m_kept, .int m_spot, .int m_reason, .int m_cause, .int m_orders, .int m_kindNow, .int m_placeNow])), (h_m_s, .inl (cI, 116, .inl m_s)), (h_m_past, .inl (cI, 464, .inl m_past)), (h_m_held, .inl (cI, 116, .inl m_held)), (h_m_text, .inl (cI, 60, .inl m_text)), (h_m_now, .inl (cI, 10, .inl m_now)), (h_m_kept, .inl (cI, 16, .inl m_kept))]) hc m_X6_40 (c_X6_is4 l D cI cS X F a1 hu2) [] (rmok_of (Nat.le_of_ble_eq_true rfl)) ⟨Nat.zero_le _, Nat.zero_le _⟩ rfl rfl rfl rfl rfl ⟨rfl, rfl, rfl⟩ dX6_shuffles_1 ?_
  refine G_if_ne (tgt := 10) hc dX6_shuffles_4 (by decide) (fun c24 => ?_) (fun c24 => ?_)
  · have h := inn h c24
    refine G_iconst (v := 0) hc dX6_shuffles_10 (by decide) ?_
    refine G_istore_n (lv' := [(0, .ref h_m), (1, .int a1), (2, .int (0 : Int32))]) hc dX6_shuffles_11 rfl rfl ?_
    refine G_aload_n hc dX6_shuffles_12 rfl ?_
    obtain ⟨z3, hu4, h⟩ := ob h
    refine G_callVV (ws2 := [(h_m, .inr (6, [.ref h_m_s, .ref h_m_past, .ref h_m_held, .int m_pasts, .int m_runs0, .ref h_m_text, .int m_typed, .ref h_m_now, .ref h_m_kept, .int m_spot, .int m_reason, .int m_cause, .int m_orders, .int m_kindNow, .int m_placeNow])), (h_m_s, .inl (cI, 116, .inl m_s)), (h_m_past, .inl (cI, 464, .inl m_past)), (h_m_held, .inl (cI, 116, .inl m_held)), (h_m_text, .inl (cI, 60, .inl m_text)), (h_m_now, .inl (cI, 10, .inl z3.1)), (h_m_kept, .inl (cI, 16, .inl z3.2))]) hc m_X6_81 (c_X6_begin l D cI cS X F h_m h_m_s h_m_past h_m_held h_m_text h_m_now h_m_kept m_pasts m_runs0 m_typed m_spot m_reason m_cause m_orders m_kindNow m_placeNow m_s m_past m_held m_text m_now m_kept hu4) 0 [0, 1, 2, 3, 4, 5, 6] rfl rfl (rmok_of (Nat.le_of_ble_eq_true rfl)) ⟨Nat.zero_le _, Nat.zero_le _⟩ rfl rfl rfl rfl rfl ⟨rfl, rfl, rfl⟩ dX6_shuffles_13 ?_
    refine G_iconst (v := 1) hc dX6_shuffles_16 (by decide) ?_
    refine G_istore_n (lv' := [(0, .ref h_m), (1, .int a1), (2, .int (0 : Int32)), (3, .int (1 : Int32))]) hc dX6_shuffles_17 rfl rfl ?_
    obtain ⟨e8, hl9, h⟩ := ob h
    have hK13 : G p l e (rmk 4) s m [.ref h_m, .int a1].toArray below meth c D A 4 0 0 (QI below [.ref h_m, .int a1].toArray s D A (PoI res.1 [(h_m, .inr (6, [.ref h_m_s, .ref h_m_past, .ref h_m_held, .int m_pasts, .int m_runs0, .ref h_m_text, .int m_typed, .ref h_m_now, .ref h_m_kept, .int m_spot, .int m_reason, .int m_cause, .int m_orders, .int m_kindNow, .int m_placeNow])), (h_m_s, .inl (cI, 116, .inl m_s)), (h_m_past, .inl (cI, 464, .inl m_past)), (h_m_held, .inl (cI, 116, .inl m_held)), (h_m_text, .inl (cI, 60, .inl m_text)), (h_m_now, .inl (cI, 10, .inl res.2.1)), (h_m_kept, .inl (cI, 16, .inl res.2.2))])) [(h_m, .inr (6, [.ref h_m_s, .ref h_m_past, .ref h_m_held, .int m_pasts, .int m_runs0, .ref h_m_text, .int m_typed, .ref h_m_now, .ref h_m_kept, .int m_spot, .int m_reason, .int m_cause, .int m_orders, .int m_kindNow, .int m_placeNow])), (h_m_s, .inl (cI, 116, .inl m_s)), (h_m_past, .inl (cI, 464, .inl m_past)), (h_m_held, .inl (cI, 116, .inl m_held)), (h_m_text, .inl (cI, 60, .inl m_text)), (h_m_now, .inl (cI, 10, .inl e8.2)), (h_m_kept, .inl (cI, 16, .inl z3.2))] [(2, .int e8.1)] 46 [] := by
      refine G_iload_n hc dX6_shuffles_46 rfl ?_
      have h := Option.some.inj h
      subst h
      exact G_ireturn hc ⟨rfl, rfl⟩ dX6_shuffles_47
    clear h
    have hL10 : ∀ (n11 : Nat) (u5 : Int32) (u6 : Int32) (u7 : Nat → Int32), f_X6_shuffles_L18 F m_s a1 z3 n11 u5 u6 u7 = some e8 → G p l e (rmk 4) s m [.ref h_m, .int a1].toArray below meth c D A 4 0 0 (QI below [.ref h_m, .int a1].toArray s D A (PoI res.1 [(h_m, .inr (6, [.ref h_m_s, .ref h_m_past, .ref h_m_held, .int m_pasts, .int m_runs0, .ref h_m_text, .int m_typed, .ref h_m_now, .ref h_m_kept, .int m_spot, .int m_reason, .int m_cause, .int m_orders, .int m_kindNow, .int m_placeNow])), (h_m_s, .inl (cI, 116, .inl m_s)), (h_m_past, .inl (cI, 464, .inl m_past)), (h_m_held, .inl (cI, 116, .inl m_held)), (h_m_text, .inl (cI, 60, .inl m_text)), (h_m_now, .inl (cI, 10, .inl res.2.1)), (h_m_kept, .inl (cI, 16, .inl res.2.2))])) [(h_m, .inr (6, [.ref h_m_s, .ref h_m_past, .ref h_m_held, .int m_pasts, .int m_runs0, .ref h_m_text, .int m_typed, .ref h_m_now, .ref h_m_kept, .int m_spot, .int m_reason, .int m_cause, .int m_orders, .int m_kindNow, .int m_placeNow])), (h_m_s, .inl (cI, 116, .inl m_s)), (h_m_past, .inl (cI, 464, .inl m_past)), (h_m_held, .inl (cI, 116, .inl m_held)), (h_m_text, .inl (cI, 60, .inl m_text)), (h_m_now, .inl (cI, 10, .inl u7)), (h_m_kept, .inl (cI, 16, .inl z3.2))] [(0, .ref h_m), (1, .int a1), (2, .int u5), (3, .int u6)] 18 [] := by
      intro n11
      induction n11 with
      | zero =>
        intro u5 u6 u7 h
        exact nz h
      | succ n11 ih12 =>
        intro u5 u6 u7 h
        rw [f_X6_shuffles_L18] at h
        refine G_iload_n hc dX6_shuffles_18 rfl ?_
        refine G_if_eq (tgt := 46) hc dX6_shuffles_19 (by decide) (fun c23 => ?_) (fun c23 => ?_)
        · have h := ip h c23
          have h := Option.some.inj h
          subst h
          refine G_lv (lv' := [(2, .int u5)]) (lsame_cons rfl lsame_nil) ?_
          exact hK13
        · have h := inn h c23
          refine G_iload_n hc dX6_shuffles_22 rfl ?_
          refine G_aload_n hc dX6_shuffles_23 rfl ?_
          refine G_iload_n hc dX6_shuffles_24 rfl ?_
          obtain ⟨z14, hu15, h⟩ := ob h
          refine G_callVI (ws2 := [(h_m, .inr (6, [.ref h_m_s, .ref h_m_past, .ref h_m_held, .int m_pasts, .int m_runs0, .ref h_m_text, .int m_typed, .ref h_m_now, .ref h_m_kept, .int m_spot, .int m_reason, .int m_cause, .int m_orders, .int m_kindNow, .int m_placeNow])), (h_m_s, .inl (cI, 116, .inl m_s)), (h_m_past, .inl (cI, 464, .inl m_past)), (h_m_held, .inl (cI, 116, .inl m_held)), (h_m_text, .inl (cI, 60, .inl m_text)), (h_m_now, .inl (cI, 10, .inl u7)), (h_m_kept, .inl (cI, 16, .inl z3.2))]) hc m_X6_84 (c_X6_isOne l D cI cS X F h_m h_m_s h_m_past h_m_held h_m_text h_m_now h_m_kept m_pasts m_runs0 m_typed m_spot m_reason m_cause m_orders m_kindNow m_placeNow m_s m_past m_held m_text u7 z3.2 a1 hu15) 0 [0, 1, 2, 3, 4, 5, 6] rfl rfl (rmok_of (Nat.le_of_ble_eq_true rfl)) ⟨Nat.zero_le _, Nat.zero_le _⟩ rfl rfl rfl rfl rfl ⟨rfl, rfl, rfl⟩ dX6_shuffles_25 ?_
          obtain ⟨t16, hr18, h⟩ := ob h
          have hj17 : G p l e (rmk 4) s m [.ref h_m, .int a1].toArray below meth c D A 4 0 0 (QI below [.ref h_m, .int a1].toArray s D A (PoI res.1 [(h_m, .inr (6, [.ref h_m_s, .ref h_m_past, .ref h_m_held, .int m_pasts, .int m_runs0, .ref h_m_text, .int m_typed, .ref h_m_now, .ref h_m_kept, .int m_spot, .int m_reason, .int m_cause, .int m_orders, .int m_kindNow, .int m_placeNow])), (h_m_s, .inl (cI, 116, .inl m_s)), (h_m_past, .inl (cI, 464, .inl m_past)), (h_m_held, .inl (cI, 116, .inl m_held)), (h_m_text, .inl (cI, 60, .inl m_text)), (h_m_now, .inl (cI, 10, .inl res.2.1)), (h_m_kept, .inl (cI, 16, .inl res.2.2))])) [(h_m, .inr (6, [.ref h_m_s, .ref h_m_past, .ref h_m_held, .int m_pasts, .int m_runs0, .ref h_m_text, .int m_typed, .ref h_m_now, .ref h_m_kept, .int m_spot, .int m_reason, .int m_cause, .int m_orders, .int m_kindNow, .int m_placeNow])), (h_m_s, .inl (cI, 116, .inl m_s)), (h_m_past, .inl (cI, 464, .inl m_past)), (h_m_held, .inl (cI, 116, .inl m_held)), (h_m_text, .inl (cI, 60, .inl m_text)), (h_m_now, .inl (cI, 10, .inl u7)), (h_m_kept, .inl (cI, 16, .inl z3.2))] [(0, .ref h_m), (1, .int a1)] 36 [.int t16, .int u5] := by
            refine G_iadd hc dX6_shuffles_36 ?_
            obtain ⟨v20, e_v20, h⟩ := sb h
            refine G_top e_v20 ?_
            refine G_istore_n (lv' := [(0, .ref h_m), (1, .int a1), (2, .int v20)]) hc dX6_shuffles_37 rfl rfl ?_
            refine G_aload_n hc dX6_shuffles_38 rfl ?_
            obtain ⟨z21, hu22, h⟩ := ob h
            refine G_callVI (ws2 := [(h_m, .inr (6, [.ref h_m_s, .ref h_m_past, .ref h_m_held, .int m_pasts, .int m_runs0, .ref h_m_text, .int m_typed, .ref h_m_now, .ref h_m_kept, .int m_spot, .int m_reason, .int m_cause, .int m_orders, .int m_kindNow, .int m_placeNow])), (h_m_s, .inl (cI, 116, .inl m_s)), (h_m_past, .inl (cI, 464, .inl m_past)), (h_m_held, .inl (cI, 116, .inl m_held)), (h_m_text, .inl (cI, 60, .inl m_text)), (h_m_now, .inl (cI, 10, .inl z21.2)), (h_m_kept, .inl (cI, 16, .inl z3.2))]) hc m_X6_87 (c_X6_goes l D cI cS X F h_m h_m_s h_m_past h_m_held h_m_text h_m_now h_m_kept m_pasts m_runs0 m_typed m_spot m_reason m_cause m_orders m_kindNow m_placeNow m_s m_past m_held m_text u7 z3.2 hu22) 0 [0, 1, 2, 3, 4, 5, 6] rfl rfl (rmok_of (Nat.le_of_ble_eq_true rfl)) ⟨Nat.zero_le _, Nat.zero_le _⟩ rfl rfl rfl rfl rfl ⟨rfl, rfl, rfl⟩ dX6_shuffles_39 ?_
            refine G_istore_n (lv' := [(0, .ref h_m), (1, .int a1), (2, .int v20), (3, .int z21.1)]) hc dX6_shuffles_42 rfl rfl ?_
            refine G_goto (tgt := 18) hc dX6_shuffles_43 (by decide) ?_
            refine G_lv (lv' := [(0, .ref h_m), (1, .int a1), (2, .int v20), (3, .int z21.1)]) (lsame_cons rfl (lsame_cons rfl (lsame_cons rfl (lsame_cons rfl lsame_nil)))) ?_
            exact ih12 _ _ _ h
          clear h
          have h := hr18
          clear hr18
          refine G_if_eq (tgt := 35) hc dX6_shuffles_28 (by decide) (fun c19 => ?_) (fun c19 => ?_)
          · have h := ip h c19
            refine G_iconst (v := 0) hc dX6_shuffles_35 (by decide) ?_
            have h := Option.some.inj h
            subst h
            refine G_lv (lv' := [(0, .ref h_m), (1, .int a1)]) (lsame_cons rfl (lsame_cons rfl lsame_nil)) ?_
            exact hj17
          · have h := inn h c19
            refine G_iconst (v := 1) hc dX6_shuffles_31 (by decide) ?_
            refine G_goto (tgt := 36) hc dX6_shuffles_32 (by decide) ?_
            have h := Option.some.inj h
            subst h
            refine G_lv (lv' := [(0, .ref h_m), (1, .int a1)]) (lsame_cons rfl (lsame_cons rfl lsame_nil)) ?_
            exact hj17
    refine G_lv (lv' := [(0, .ref h_m), (1, .int a1), (2, .int (0 : Int32)), (3, .int (1 : Int32))]) (lsame_cons rfl (lsame_cons rfl (lsame_cons rfl (lsame_cons rfl lsame_nil)))) ?_
    exact hL10 F _ _ _ hl9
  · have h := ip h c24
    refine G_ldc (v := -1000001) hc k_X6_44 dX6_shuffles_7 ?_
    have h := Option.some.inj h
    subst h
    exact G_ireturn hc ⟨rfl, rfl⟩ dX6_shuffles_9
set_option maxHeartbeats 4000000 in
set_option maxRecDepth 100000 in
theorem c_X6_place (l : Launch) (D : va_G) (cI cS : ClassId) (X : XP) (F : Nat) (h_m h_m_s h_m_past h_m_held h_m_text h_m_now h_m_kept : Nat) (m_pasts : Int32) (m_runs0 : Int32) (m_typed : Int32) (m_spot : Int32) (m_reason : Int32) (m_cause : Int32) (m_orders : Int32) (m_kindNow : Int32) (m_placeNow : Int32) (m_s : Nat → Int32) (m_past : Nat → Int32) (m_held : Nat → Int32) (m_text : Nat → Int32) (m_now : Nat → Int32) (m_kept : Nat → Int32) (a1 : Int32) {res : Int32 × (Nat → Int32) × (Nat → Int32)} (h : f_X6_place F m_s m_now m_kept a1 = some res) : CtI l D cI cS X yX6_place cX6_place 3 (some .int) 4 [.ref h_m, .int a1] [(h_m, .inr (6, [.ref h_m_s, .ref h_m_past, .ref h_m_held, .int m_pasts, .int m_runs0, .ref h_m_text, .int m_typed, .ref h_m_now, .ref h_m_kept, .int m_spot, .int m_reason, .int m_cause, .int m_orders, .int m_kindNow, .int m_placeNow])), (h_m_s, .inl (cI, 116, .inl m_s)), (h_m_past, .inl (cI, 464, .inl m_past)), (h_m_held, .inl (cI, 116, .inl m_held)), (h_m_text, .inl (cI, 60, .inl m_text)), (h_m_now, .inl (cI, 10, .inl m_now)), (h_m_kept, .inl (cI, 16, .inl m_kept))] (PoI res.1 [(h_m, .inr (6, [.ref h_m_s, .ref h_m_past, .ref h_m_held, .int m_pasts, .int m_runs0, .ref h_m_text, .int m_typed, .ref h_m_now, .ref h_m_kept, .int m_spot, .int m_reason, .int m_cause, .int m_orders, .int m_kindNow, .int m_placeNow])), (h_m_s, .inl (cI, 116, .inl m_s)), (h_m_past, .inl (cI, 464, .inl m_past)), (h_m_held, .inl (cI, 116, .inl m_held)), (h_m_text, .inl (cI, 60, .inl m_text)), (h_m_now, .inl (cI, 10, .inl res.2.1)), (h_m_kept, .inl (cI, 16, .inl res.2.2))]) := by
  refine CtI.of (by decide +kernel) rfl ?_
  intro p e s m below meth c A hc
  refine G_lv (lv' := [(0, .ref h_m), (1, .int a1)]) (lsame_cons rfl (lsame_cons rfl lsame_nil)) ?_
  unfold f_X6_place at h
  refine G_iconst (v := 0) hc dX6_place_0 (by decide) ?_
  refine G_istore_n (lv' := [(0, .ref h_m), (1, .int a1), (2, .int (0 : Int32))]) hc dX6_place_1 rfl rfl ?_
  refine G_aload_n hc dX6_place_2 rfl ?_
  obtain ⟨z1, hu2, h⟩ := ob h
  refine G_callVV (ws2 := [(h_m, .inr (6, [.ref h_m_s, .ref h_m_past, .ref h_m_held, .int m_pasts, .int m_runs0, .ref h_m_text, .int m_typed, .ref h_m_now, .ref h_m_kept, .int m_spot, .int m_reason, .int m_cause, .int m_orders, .int m_kindNow, .int m_placeNow])), (h_m_s, .inl (cI, 116, .inl m_s)), (h_m_past, .inl (cI, 464, .inl m_past)), (h_m_held, .inl (cI, 116, .inl m_held)), (h_m_text, .inl (cI, 60, .inl m_text)), (h_m_now, .inl (cI, 10, .inl z1.1)), (h_m_kept, .inl (cI, 16, .inl z1.2))]) hc m_X6_81 (c_X6_begin l D cI cS X F h_m h_m_s h_m_past h_m_held h_m_text h_m_now h_m_kept m_pasts m_runs0 m_typed m_spot m_reason m_cause m_orders m_kindNow m_placeNow m_s m_past m_held m_text m_now m_kept hu2) 0 [0, 1, 2, 3, 4, 5, 6] rfl rfl (rmok_of (Nat.le_of_ble_eq_true rfl)) ⟨Nat.zero_le _, Nat.zero_le _⟩ rfl rfl rfl rfl rfl ⟨rfl, rfl, rfl⟩ dX6_place_3 ?_
  obtain ⟨e5, hl6, h⟩ := ob h
  have hK10 : G p l e (rmk 4) s m [.ref h_m, .int a1].toArray below meth c D A 3 0 0 (QI below [.ref h_m, .int a1].toArray s D A (PoI res.1 [(h_m, .inr (6, [.ref h_m_s, .ref h_m_past, .ref h_m_held, .int m_pasts, .int m_runs0, .ref h_m_text, .int m_typed, .ref h_m_now, .ref h_m_kept, .int m_spot, .int m_reason, .int m_cause, .int m_orders, .int m_kindNow, .int m_placeNow])), (h_m_s, .inl (cI, 116, .inl m_s)), (h_m_past, .inl (cI, 464, .inl m_past)), (h_m_held, .inl (cI, 116, .inl m_held)), (h_m_text, .inl (cI, 60, .inl m_text)), (h_m_now, .inl (cI, 10, .inl res.2.1)), (h_m_kept, .inl (cI, 16, .inl res.2.2))])) [(h_m, .inr (6, [.ref h_m_s, .ref h_m_past, .ref h_m_held, .int m_pasts, .int m_runs0, .ref h_m_text, .int m_typed, .ref h_m_now, .ref h_m_kept, .int m_spot, .int m_reason, .int m_cause, .int m_orders, .int m_kindNow, .int m_placeNow])), (h_m_s, .inl (cI, 116, .inl m_s)), (h_m_past, .inl (cI, 464, .inl m_past)), (h_m_held, .inl (cI, 116, .inl m_held)), (h_m_text, .inl (cI, 60, .inl m_text)), (h_m_now, .inl (cI, 10, .inl e5.2)), (h_m_kept, .inl (cI, 16, .inl z1.2))] [(2, .int e5.1)] 43 [] := by
    refine G_iload_n hc dX6_place_43 rfl ?_
    have h := Option.some.inj h
    subst h
    exact G_ireturn hc ⟨rfl, rfl⟩ dX6_place_44
  clear h
  have hL7 : ∀ (n8 : Nat) (u3 : Int32) (u4 : Nat → Int32), f_X6_place_L6 F m_s a1 z1 n8 u3 u4 = some e5 → G p l e (rmk 4) s m [.ref h_m, .int a1].toArray below meth c D A 3 0 0 (QI below [.ref h_m, .int a1].toArray s D A (PoI res.1 [(h_m, .inr (6, [.ref h_m_s, .ref h_m_past, .ref h_m_held, .int m_pasts, .int m_runs0, .ref h_m_text, .int m_typed, .ref h_m_now, .ref h_m_kept, .int m_spot, .int m_reason, .int m_cause, .int m_orders, .int m_kindNow, .int m_placeNow])), (h_m_s, .inl (cI, 116, .inl m_s)), (h_m_past, .inl (cI, 464, .inl m_past)), (h_m_held, .inl (cI, 116, .inl m_held)), (h_m_text, .inl (cI, 60, .inl m_text)), (h_m_now, .inl (cI, 10, .inl res.2.1)), (h_m_kept, .inl (cI, 16, .inl res.2.2))])) [(h_m, .inr (6, [.ref h_m_s, .ref h_m_past, .ref h_m_held, .int m_pasts, .int m_runs0, .ref h_m_text, .int m_typed, .ref h_m_now, .ref h_m_kept, .int m_spot, .int m_reason, .int m_cause, .int m_orders, .int m_kindNow, .int m_placeNow])), (h_m_s, .inl (cI, 116, .inl m_s)), (h_m_past, .inl (cI, 464, .inl m_past)), (h_m_held, .inl (cI, 116, .inl m_held)), (h_m_text, .inl (cI, 60, .inl m_text)), (h_m_now, .inl (cI, 10, .inl u4)), (h_m_kept, .inl (cI, 16, .inl z1.2))] [(0, .ref h_m), (1, .int a1), (2, .int u3)] 6 [] := by
    intro n8
    induction n8 with
    | zero =>
      intro u3 u4 h
      exact nz h
    | succ n8 ih9 =>
      intro u3 u4 h
      rw [f_X6_place_L6] at h
      refine G_aload_n hc dX6_place_6 rfl ?_
      obtain ⟨z11, hu12, h⟩ := ob h
      refine G_callVI (ws2 := [(h_m, .inr (6, [.ref h_m_s, .ref h_m_past, .ref h_m_held, .int m_pasts, .int m_runs0, .ref h_m_text, .int m_typed, .ref h_m_now, .ref h_m_kept, .int m_spot, .int m_reason, .int m_cause, .int m_orders, .int m_kindNow, .int m_placeNow])), (h_m_s, .inl (cI, 116, .inl m_s)), (h_m_past, .inl (cI, 464, .inl m_past)), (h_m_held, .inl (cI, 116, .inl m_held)), (h_m_text, .inl (cI, 60, .inl m_text)), (h_m_now, .inl (cI, 10, .inl u4)), (h_m_kept, .inl (cI, 16, .inl z1.2))]) hc m_X6_90 (c_X6_same l D cI cS X F h_m h_m_s h_m_past h_m_held h_m_text h_m_now h_m_kept m_pasts m_runs0 m_typed m_spot m_reason m_cause m_orders m_kindNow m_placeNow m_s m_past m_held m_text u4 z1.2 hu12) 0 [0, 1, 2, 3, 4, 5, 6] rfl rfl (rmok_of (Nat.le_of_ble_eq_true rfl)) ⟨Nat.zero_le _, Nat.zero_le _⟩ rfl rfl rfl rfl rfl ⟨rfl, rfl, rfl⟩ dX6_place_7 ?_
      refine G_aload_n hc dX6_place_10 rfl ?_
      refine G_get hc f_X6_7 0 rfl rfl dX6_place_11 ?_
      refine G_iconst (v := 0) hc dX6_place_14 (by decide) ?_
      obtain ⟨v13, i_v13, e_v13, h⟩ := rb h
      refine G_iald hc 1 rfl i_v13 e_v13 dX6_place_15 ?_
      refine G_icmp_ge (tgt := 43) hc dX6_place_16 (by decide) (fun c23 => ?_) (fun c23 => ?_)
      · have h := ip h c23
        have h := Option.some.inj h
        subst h
        refine G_lv (lv' := [(2, .int u3)]) (lsame_cons rfl lsame_nil) ?_
        exact hK10
      · have h := inn h c23
        refine G_iload_n hc dX6_place_19 rfl ?_
        refine G_aload_n hc dX6_place_20 rfl ?_
        refine G_iload_n hc dX6_place_21 rfl ?_
        obtain ⟨z14, hu15, h⟩ := ob h
        refine G_callVI (ws2 := [(h_m, .inr (6, [.ref h_m_s, .ref h_m_past, .ref h_m_held, .int m_pasts, .int m_runs0, .ref h_m_text, .int m_typed, .ref h_m_now, .ref h_m_kept, .int m_spot, .int m_reason, .int m_cause, .int m_orders, .int m_kindNow, .int m_placeNow])), (h_m_s, .inl (cI, 116, .inl m_s)), (h_m_past, .inl (cI, 464, .inl m_past)), (h_m_held, .inl (cI, 116, .inl m_held)), (h_m_text, .inl (cI, 60, .inl m_text)), (h_m_now, .inl (cI, 10, .inl u4)), (h_m_kept, .inl (cI, 16, .inl z1.2))]) hc m_X6_84 (c_X6_isOne l D cI cS X F h_m h_m_s h_m_past h_m_held h_m_text h_m_now h_m_kept m_pasts m_runs0 m_typed m_spot m_reason m_cause m_orders m_kindNow m_placeNow m_s m_past m_held m_text u4 z1.2 a1 hu15) 0 [0, 1, 2, 3, 4, 5, 6] rfl rfl (rmok_of (Nat.le_of_ble_eq_true rfl)) ⟨Nat.zero_le _, Nat.zero_le _⟩ rfl rfl rfl rfl rfl ⟨rfl, rfl, rfl⟩ dX6_place_22 ?_
        obtain ⟨t16, hr18, h⟩ := ob h
        have hj17 : G p l e (rmk 4) s m [.ref h_m, .int a1].toArray below meth c D A 3 0 0 (QI below [.ref h_m, .int a1].toArray s D A (PoI res.1 [(h_m, .inr (6, [.ref h_m_s, .ref h_m_past, .ref h_m_held, .int m_pasts, .int m_runs0, .ref h_m_text, .int m_typed, .ref h_m_now, .ref h_m_kept, .int m_spot, .int m_reason, .int m_cause, .int m_orders, .int m_kindNow, .int m_placeNow])), (h_m_s, .inl (cI, 116, .inl m_s)), (h_m_past, .inl (cI, 464, .inl m_past)), (h_m_held, .inl (cI, 116, .inl m_held)), (h_m_text, .inl (cI, 60, .inl m_text)), (h_m_now, .inl (cI, 10, .inl res.2.1)), (h_m_kept, .inl (cI, 16, .inl res.2.2))])) [(h_m, .inr (6, [.ref h_m_s, .ref h_m_past, .ref h_m_held, .int m_pasts, .int m_runs0, .ref h_m_text, .int m_typed, .ref h_m_now, .ref h_m_kept, .int m_spot, .int m_reason, .int m_cause, .int m_orders, .int m_kindNow, .int m_placeNow])), (h_m_s, .inl (cI, 116, .inl m_s)), (h_m_past, .inl (cI, 464, .inl m_past)), (h_m_held, .inl (cI, 116, .inl m_held)), (h_m_text, .inl (cI, 60, .inl m_text)), (h_m_now, .inl (cI, 10, .inl u4)), (h_m_kept, .inl (cI, 16, .inl z1.2))] [(0, .ref h_m), (1, .int a1)] 33 [.int t16, .int u3] := by
          refine G_iadd hc dX6_place_33 ?_
          obtain ⟨v20, e_v20, h⟩ := sb h
          refine G_top e_v20 ?_
          refine G_istore_n (lv' := [(0, .ref h_m), (1, .int a1), (2, .int v20)]) hc dX6_place_34 rfl rfl ?_
          refine G_aload_n hc dX6_place_35 rfl ?_
          obtain ⟨z21, hu22, h⟩ := ob h
          refine G_callVI (ws2 := [(h_m, .inr (6, [.ref h_m_s, .ref h_m_past, .ref h_m_held, .int m_pasts, .int m_runs0, .ref h_m_text, .int m_typed, .ref h_m_now, .ref h_m_kept, .int m_spot, .int m_reason, .int m_cause, .int m_orders, .int m_kindNow, .int m_placeNow])), (h_m_s, .inl (cI, 116, .inl m_s)), (h_m_past, .inl (cI, 464, .inl m_past)), (h_m_held, .inl (cI, 116, .inl m_held)), (h_m_text, .inl (cI, 60, .inl m_text)), (h_m_now, .inl (cI, 10, .inl z21.2)), (h_m_kept, .inl (cI, 16, .inl z1.2))]) hc m_X6_87 (c_X6_goes l D cI cS X F h_m h_m_s h_m_past h_m_held h_m_text h_m_now h_m_kept m_pasts m_runs0 m_typed m_spot m_reason m_cause m_orders m_kindNow m_placeNow m_s m_past m_held m_text u4 z1.2 hu22) 0 [0, 1, 2, 3, 4, 5, 6] rfl rfl (rmok_of (Nat.le_of_ble_eq_true rfl)) ⟨Nat.zero_le _, Nat.zero_le _⟩ rfl rfl rfl rfl rfl ⟨rfl, rfl, rfl⟩ dX6_place_36 ?_
          refine G_pop hc dX6_place_39 rfl ?_
          refine G_goto (tgt := 6) hc dX6_place_40 (by decide) ?_
          refine G_lv (lv' := [(0, .ref h_m), (1, .int a1), (2, .int v20)]) (lsame_cons rfl (lsame_cons rfl (lsame_cons rfl lsame_nil))) ?_
          exact ih9 _ _ h
        clear h
        have h := hr18
        clear hr18
        refine G_if_eq (tgt := 32) hc dX6_place_25 (by decide) (fun c19 => ?_) (fun c19 => ?_)
        · have h := ip h c19
          refine G_iconst (v := 0) hc dX6_place_32 (by decide) ?_
          have h := Option.some.inj h
          subst h
          refine G_lv (lv' := [(0, .ref h_m), (1, .int a1)]) (lsame_cons rfl (lsame_cons rfl lsame_nil)) ?_
          exact hj17
        · have h := inn h c19
          refine G_iconst (v := 1) hc dX6_place_28 (by decide) ?_
          refine G_goto (tgt := 33) hc dX6_place_29 (by decide) ?_
          have h := Option.some.inj h
          subst h
          refine G_lv (lv' := [(0, .ref h_m), (1, .int a1)]) (lsame_cons rfl (lsame_cons rfl lsame_nil)) ?_
          exact hj17
  refine G_lv (lv' := [(0, .ref h_m), (1, .int a1), (2, .int (0 : Int32))]) (lsame_cons rfl (lsame_cons rfl (lsame_cons rfl lsame_nil))) ?_
  exact hL7 F _ _ hl6
set_option maxHeartbeats 4000000 in
set_option maxRecDepth 100000 in
theorem c_X6_placeOf (l : Launch) (D : va_G) (cI cS : ClassId) (X : XP) (F : Nat) (h_m h_m_s h_m_past h_m_held h_m_text h_m_now h_m_kept : Nat) (m_pasts : Int32) (m_runs0 : Int32) (m_typed : Int32) (m_spot : Int32) (m_reason : Int32) (m_cause : Int32) (m_orders : Int32) (m_kindNow : Int32) (m_placeNow : Int32) (m_s : Nat → Int32) (m_past : Nat → Int32) (m_held : Nat → Int32) (m_text : Nat → Int32) (m_now : Nat → Int32) (m_kept : Nat → Int32) (a1 : Int32) {res : Int32 × (Nat → Int32) × (Nat → Int32)} (h : f_X6_placeOf F m_s m_now m_kept a1 = some res) : CtI l D cI cS X yX6_placeOf cX6_placeOf 2 (some .int) 5 [.ref h_m, .int a1] [(h_m, .inr (6, [.ref h_m_s, .ref h_m_past, .ref h_m_held, .int m_pasts, .int m_runs0, .ref h_m_text, .int m_typed, .ref h_m_now, .ref h_m_kept, .int m_spot, .int m_reason, .int m_cause, .int m_orders, .int m_kindNow, .int m_placeNow])), (h_m_s, .inl (cI, 116, .inl m_s)), (h_m_past, .inl (cI, 464, .inl m_past)), (h_m_held, .inl (cI, 116, .inl m_held)), (h_m_text, .inl (cI, 60, .inl m_text)), (h_m_now, .inl (cI, 10, .inl m_now)), (h_m_kept, .inl (cI, 16, .inl m_kept))] (PoI res.1 [(h_m, .inr (6, [.ref h_m_s, .ref h_m_past, .ref h_m_held, .int m_pasts, .int m_runs0, .ref h_m_text, .int m_typed, .ref h_m_now, .ref h_m_kept, .int m_spot, .int m_reason, .int m_cause, .int m_orders, .int m_kindNow, .int m_placeNow])), (h_m_s, .inl (cI, 116, .inl m_s)), (h_m_past, .inl (cI, 464, .inl m_past)), (h_m_held, .inl (cI, 116, .inl m_held)), (h_m_text, .inl (cI, 60, .inl m_text)), (h_m_now, .inl (cI, 10, .inl res.2.1)), (h_m_kept, .inl (cI, 16, .inl res.2.2))]) := by
  refine CtI.of (by decide +kernel) rfl ?_
  intro p e s m below meth c A hc
  refine G_lv (lv' := [(0, .ref h_m), (1, .int a1)]) (lsame_cons rfl (lsame_cons rfl lsame_nil)) ?_
  unfold f_X6_placeOf at h
  refine G_iload_n hc dX6_placeOf_0 rfl ?_
  obtain ⟨z1, hu2, h⟩ := ob h
  refine G_callSI (ws2 := [(h_m, .inr (6, [.ref h_m_s, .ref h_m_past, .ref h_m_held, .int m_pasts, .int m_runs0, .ref h_m_text, .int m_typed, .ref h_m_now, .ref h_m_kept, .int m_spot, .int m_reason, .int m_cause, .int m_orders, .int m_kindNow, .int m_placeNow])), (h_m_s, .inl (cI, 116, .inl m_s)), (h_m_past, .inl (cI, 464, .inl m_past)), (h_m_held, .inl (cI, 116, .inl m_held)), (h_m_text, .inl (cI, 60, .inl m_text)), (h_m_now, .inl (cI, 10, .inl m_now)), (h_m_kept, .inl (cI, 16, .inl m_kept))]) hc m_X6_40 (c_X6_is4 l D cI cS X F a1 hu2) [] (rmok_of (Nat.le_of_ble_eq_true rfl)) ⟨Nat.zero_le _, Nat.zero_le _⟩ rfl rfl rfl rfl rfl ⟨rfl, rfl, rfl⟩ dX6_placeOf_1 ?_
  obtain ⟨t3, hr5, h⟩ := ob h
  have hj4 : G p l e (rmk 5) s m [.ref h_m, .int a1].toArray below meth c D A 2 0 0 (QI below [.ref h_m, .int a1].toArray s D A (PoI res.1 [(h_m, .inr (6, [.ref h_m_s, .ref h_m_past, .ref h_m_held, .int m_pasts, .int m_runs0, .ref h_m_text, .int m_typed, .ref h_m_now, .ref h_m_kept, .int m_spot, .int m_reason, .int m_cause, .int m_orders, .int m_kindNow, .int m_placeNow])), (h_m_s, .inl (cI, 116, .inl m_s)), (h_m_past, .inl (cI, 464, .inl m_past)), (h_m_held, .inl (cI, 116, .inl m_held)), (h_m_text, .inl (cI, 60, .inl m_text)), (h_m_now, .inl (cI, 10, .inl res.2.1)), (h_m_kept, .inl (cI, 16, .inl res.2.2))])) [(h_m, .inr (6, [.ref h_m_s, .ref h_m_past, .ref h_m_held, .int m_pasts, .int m_runs0, .ref h_m_text, .int m_typed, .ref h_m_now, .ref h_m_kept, .int m_spot, .int m_reason, .int m_cause, .int m_orders, .int m_kindNow, .int m_placeNow])), (h_m_s, .inl (cI, 116, .inl m_s)), (h_m_past, .inl (cI, 464, .inl m_past)), (h_m_held, .inl (cI, 116, .inl m_held)), (h_m_text, .inl (cI, 60, .inl m_text)), (h_m_now, .inl (cI, 10, .inl t3.2.1)), (h_m_kept, .inl (cI, 16, .inl t3.2.2))] [] 17 [.int t3.1] := by
    have h := Option.some.inj h
    subst h
    exact G_ireturn hc ⟨rfl, rfl⟩ dX6_placeOf_17
  clear h
  have h := hr5
  clear hr5
  refine G_if_eq (tgt := 15) hc dX6_placeOf_4 (by decide) (fun c8 => ?_) (fun c8 => ?_)
  · have h := ip h c8
    refine G_ldc (v := -1000001) hc k_X6_44 dX6_placeOf_15 ?_
    have h := Option.some.inj h
    subst h
    refine G_lv (lv' := []) lsame_nil ?_
    exact hj4
  · have h := inn h c8
    refine G_aload_n hc dX6_placeOf_7 rfl ?_
    refine G_iload_n hc dX6_placeOf_8 rfl ?_
    obtain ⟨z6, hu7, h⟩ := ob h
    refine G_callVI (ws2 := [(h_m, .inr (6, [.ref h_m_s, .ref h_m_past, .ref h_m_held, .int m_pasts, .int m_runs0, .ref h_m_text, .int m_typed, .ref h_m_now, .ref h_m_kept, .int m_spot, .int m_reason, .int m_cause, .int m_orders, .int m_kindNow, .int m_placeNow])), (h_m_s, .inl (cI, 116, .inl m_s)), (h_m_past, .inl (cI, 464, .inl m_past)), (h_m_held, .inl (cI, 116, .inl m_held)), (h_m_text, .inl (cI, 60, .inl m_text)), (h_m_now, .inl (cI, 10, .inl z6.2.1)), (h_m_kept, .inl (cI, 16, .inl z6.2.2))]) hc m_X6_94 (c_X6_place l D cI cS X F h_m h_m_s h_m_past h_m_held h_m_text h_m_now h_m_kept m_pasts m_runs0 m_typed m_spot m_reason m_cause m_orders m_kindNow m_placeNow m_s m_past m_held m_text m_now m_kept a1 hu7) 0 [0, 1, 2, 3, 4, 5, 6] rfl rfl (rmok_of (Nat.le_of_ble_eq_true rfl)) ⟨Nat.zero_le _, Nat.zero_le _⟩ rfl rfl rfl rfl rfl ⟨rfl, rfl, rfl⟩ dX6_placeOf_9 ?_
    refine G_goto (tgt := 17) hc dX6_placeOf_12 (by decide) ?_
    have h := Option.some.inj h
    subst h
    refine G_lv (lv' := []) lsame_nil ?_
    exact hj4
set_option maxHeartbeats 4000000 in
set_option maxRecDepth 100000 in
theorem c_X6_finds (l : Launch) (D : va_G) (cI cS : ClassId) (X : XP) (F : Nat) (h_m h_m_s h_m_past h_m_held h_m_text h_m_now h_m_kept : Nat) (m_pasts : Int32) (m_runs0 : Int32) (m_typed : Int32) (m_spot : Int32) (m_reason : Int32) (m_cause : Int32) (m_orders : Int32) (m_kindNow : Int32) (m_placeNow : Int32) (m_s : Nat → Int32) (m_past : Nat → Int32) (m_held : Nat → Int32) (m_text : Nat → Int32) (m_now : Nat → Int32) (m_kept : Nat → Int32) (a1 : Int32) (a2 : Int32) {res : Int32 × (Nat → Int32) × (Nat → Int32)} (h : f_X6_finds F m_s m_now m_kept a1 a2 = some res) : CtI l D cI cS X yX6_finds cX6_finds 5 (some .boolean) 4 [.ref h_m, .int a1, .int a2] [(h_m, .inr (6, [.ref h_m_s, .ref h_m_past, .ref h_m_held, .int m_pasts, .int m_runs0, .ref h_m_text, .int m_typed, .ref h_m_now, .ref h_m_kept, .int m_spot, .int m_reason, .int m_cause, .int m_orders, .int m_kindNow, .int m_placeNow])), (h_m_s, .inl (cI, 116, .inl m_s)), (h_m_past, .inl (cI, 464, .inl m_past)), (h_m_held, .inl (cI, 116, .inl m_held)), (h_m_text, .inl (cI, 60, .inl m_text)), (h_m_now, .inl (cI, 10, .inl m_now)), (h_m_kept, .inl (cI, 16, .inl m_kept))] (PoI res.1 [(h_m, .inr (6, [.ref h_m_s, .ref h_m_past, .ref h_m_held, .int m_pasts, .int m_runs0, .ref h_m_text, .int m_typed, .ref h_m_now, .ref h_m_kept, .int m_spot, .int m_reason, .int m_cause, .int m_orders, .int m_kindNow, .int m_placeNow])), (h_m_s, .inl (cI, 116, .inl m_s)), (h_m_past, .inl (cI, 464, .inl m_past)), (h_m_held, .inl (cI, 116, .inl m_held)), (h_m_text, .inl (cI, 60, .inl m_text)), (h_m_now, .inl (cI, 10, .inl res.2.1)), (h_m_kept, .inl (cI, 16, .inl res.2.2))]) := by
  refine CtI.of (by decide +kernel) rfl ?_
  intro p e s m below meth c A hc
  refine G_lv (lv' := [(0, .ref h_m), (1, .int a1), (2, .int a2)]) (lsame_cons rfl (lsame_cons rfl (lsame_cons rfl lsame_nil))) ?_
  unfold f_X6_finds at h
  refine G_iload_n hc dX6_finds_0 rfl ?_
  refine G_istore_n (lv' := [(0, .ref h_m), (1, .int a1), (2, .int a2), (3, .int a2)]) hc dX6_finds_1 rfl rfl ?_
  refine G_aload_n hc dX6_finds_2 rfl ?_
  obtain ⟨z1, hu2, h⟩ := ob h
  refine G_callVV (ws2 := [(h_m, .inr (6, [.ref h_m_s, .ref h_m_past, .ref h_m_held, .int m_pasts, .int m_runs0, .ref h_m_text, .int m_typed, .ref h_m_now, .ref h_m_kept, .int m_spot, .int m_reason, .int m_cause, .int m_orders, .int m_kindNow, .int m_placeNow])), (h_m_s, .inl (cI, 116, .inl m_s)), (h_m_past, .inl (cI, 464, .inl m_past)), (h_m_held, .inl (cI, 116, .inl m_held)), (h_m_text, .inl (cI, 60, .inl m_text)), (h_m_now, .inl (cI, 10, .inl z1.1)), (h_m_kept, .inl (cI, 16, .inl z1.2))]) hc m_X6_81 (c_X6_begin l D cI cS X F h_m h_m_s h_m_past h_m_held h_m_text h_m_now h_m_kept m_pasts m_runs0 m_typed m_spot m_reason m_cause m_orders m_kindNow m_placeNow m_s m_past m_held m_text m_now m_kept hu2) 0 [0, 1, 2, 3, 4, 5, 6] rfl rfl (rmok_of (Nat.le_of_ble_eq_true rfl)) ⟨Nat.zero_le _, Nat.zero_le _⟩ rfl rfl rfl rfl rfl ⟨rfl, rfl, rfl⟩ dX6_finds_3 ?_
  refine G_iconst (v := 1) hc dX6_finds_6 (by decide) ?_
  refine G_istore (lv' := [(0, .ref h_m), (1, .int a1), (2, .int a2), (3, .int a2), (4, .int (1 : Int32))]) hc dX6_finds_7 rfl rfl ?_
  obtain ⟨e6, hl7, h⟩ := ob h
  have hK11 : ∀ ax13, e6 = (Sum.inl ax13) → G p l e (rmk 4) s m [.ref h_m, .int a1, .int a2].toArray below meth c D A 5 0 0 (QI below [.ref h_m, .int a1, .int a2].toArray s D A (PoI res.1 [(h_m, .inr (6, [.ref h_m_s, .ref h_m_past, .ref h_m_held, .int m_pasts, .int m_runs0, .ref h_m_text, .int m_typed, .ref h_m_now, .ref h_m_kept, .int m_spot, .int m_reason, .int m_cause, .int m_orders, .int m_kindNow, .int m_placeNow])), (h_m_s, .inl (cI, 116, .inl m_s)), (h_m_past, .inl (cI, 464, .inl m_past)), (h_m_held, .inl (cI, 116, .inl m_held)), (h_m_text, .inl (cI, 60, .inl m_text)), (h_m_now, .inl (cI, 10, .inl res.2.1)), (h_m_kept, .inl (cI, 16, .inl res.2.2))])) [(h_m, .inr (6, [.ref h_m_s, .ref h_m_past, .ref h_m_held, .int m_pasts, .int m_runs0, .ref h_m_text, .int m_typed, .ref h_m_now, .ref h_m_kept, .int m_spot, .int m_reason, .int m_cause, .int m_orders, .int m_kindNow, .int m_placeNow])), (h_m_s, .inl (cI, 116, .inl m_s)), (h_m_past, .inl (cI, 464, .inl m_past)), (h_m_held, .inl (cI, 116, .inl m_held)), (h_m_text, .inl (cI, 60, .inl m_text)), (h_m_now, .inl (cI, 10, .inl ax13)), (h_m_kept, .inl (cI, 16, .inl z1.2))] [] 26 [] := by
    intro ax13 he
    subst he
    simp only [Sum.elim_inl, Sum.elim_inr] at h
    refine G_iconst (v := 1) hc dX6_finds_26 (by decide) ?_
    have h := Option.some.inj h
    subst h
    exact G_zreturn hc (by decide) ⟨rfl, rfl⟩ dX6_finds_27
  have hK12 : ∀ ax14, e6 = (Sum.inr ax14) → G p l e (rmk 4) s m [.ref h_m, .int a1, .int a2].toArray below meth c D A 5 0 0 (QI below [.ref h_m, .int a1, .int a2].toArray s D A (PoI res.1 [(h_m, .inr (6, [.ref h_m_s, .ref h_m_past, .ref h_m_held, .int m_pasts, .int m_runs0, .ref h_m_text, .int m_typed, .ref h_m_now, .ref h_m_kept, .int m_spot, .int m_reason, .int m_cause, .int m_orders, .int m_kindNow, .int m_placeNow])), (h_m_s, .inl (cI, 116, .inl m_s)), (h_m_past, .inl (cI, 464, .inl m_past)), (h_m_held, .inl (cI, 116, .inl m_held)), (h_m_text, .inl (cI, 60, .inl m_text)), (h_m_now, .inl (cI, 10, .inl res.2.1)), (h_m_kept, .inl (cI, 16, .inl res.2.2))])) [(h_m, .inr (6, [.ref h_m_s, .ref h_m_past, .ref h_m_held, .int m_pasts, .int m_runs0, .ref h_m_text, .int m_typed, .ref h_m_now, .ref h_m_kept, .int m_spot, .int m_reason, .int m_cause, .int m_orders, .int m_kindNow, .int m_placeNow])), (h_m_s, .inl (cI, 116, .inl m_s)), (h_m_past, .inl (cI, 464, .inl m_past)), (h_m_held, .inl (cI, 116, .inl m_held)), (h_m_text, .inl (cI, 60, .inl m_text)), (h_m_now, .inl (cI, 10, .inl ax14)), (h_m_kept, .inl (cI, 16, .inl z1.2))] [] 40 [] := by
    intro ax14 he
    subst he
    simp only [Sum.elim_inl, Sum.elim_inr] at h
    refine G_iconst (v := 0) hc dX6_finds_40 (by decide) ?_
    have h := Option.some.inj h
    subst h
    exact G_zreturn hc (by decide) ⟨rfl, rfl⟩ dX6_finds_41
  clear h
  have hL8 : ∀ (n9 : Nat) (u3 : Int32) (u4 : Int32) (u5 : Nat → Int32), f_X6_finds_L9 F m_s a1 z1 n9 u3 u4 u5 = some e6 → G p l e (rmk 4) s m [.ref h_m, .int a1, .int a2].toArray below meth c D A 5 0 0 (QI below [.ref h_m, .int a1, .int a2].toArray s D A (PoI res.1 [(h_m, .inr (6, [.ref h_m_s, .ref h_m_past, .ref h_m_held, .int m_pasts, .int m_runs0, .ref h_m_text, .int m_typed, .ref h_m_now, .ref h_m_kept, .int m_spot, .int m_reason, .int m_cause, .int m_orders, .int m_kindNow, .int m_placeNow])), (h_m_s, .inl (cI, 116, .inl m_s)), (h_m_past, .inl (cI, 464, .inl m_past)), (h_m_held, .inl (cI, 116, .inl m_held)), (h_m_text, .inl (cI, 60, .inl m_text)), (h_m_now, .inl (cI, 10, .inl res.2.1)), (h_m_kept, .inl (cI, 16, .inl res.2.2))])) [(h_m, .inr (6, [.ref h_m_s, .ref h_m_past, .ref h_m_held, .int m_pasts, .int m_runs0, .ref h_m_text, .int m_typed, .ref h_m_now, .ref h_m_kept, .int m_spot, .int m_reason, .int m_cause, .int m_orders, .int m_kindNow, .int m_placeNow])), (h_m_s, .inl (cI, 116, .inl m_s)), (h_m_past, .inl (cI, 464, .inl m_past)), (h_m_held, .inl (cI, 116, .inl m_held)), (h_m_text, .inl (cI, 60, .inl m_text)), (h_m_now, .inl (cI, 10, .inl u5)), (h_m_kept, .inl (cI, 16, .inl z1.2))] [(0, .ref h_m), (1, .int a1), (3, .int u3), (4, .int u4)] 9 [] := by
    intro n9
    induction n9 with
    | zero =>
      intro u3 u4 u5 h
      exact nz h
    | succ n9 ih10 =>
      intro u3 u4 u5 h
      rw [f_X6_finds_L9] at h
      refine G_iload hc dX6_finds_9 rfl ?_
      refine G_if_eq (tgt := 40) hc dX6_finds_11 (by decide) (fun c24 => ?_) (fun c24 => ?_)
      · have h := ip h c24
        have h := Option.some.inj h
        subst h
        refine G_lv (lv' := []) lsame_nil ?_
        exact hK12 _ rfl
      · have h := inn h c24
        refine G_aload_n hc dX6_finds_14 rfl ?_
        refine G_iload_n hc dX6_finds_15 rfl ?_
        obtain ⟨z15, hu16, h⟩ := ob h
        refine G_callVI (ws2 := [(h_m, .inr (6, [.ref h_m_s, .ref h_m_past, .ref h_m_held, .int m_pasts, .int m_runs0, .ref h_m_text, .int m_typed, .ref h_m_now, .ref h_m_kept, .int m_spot, .int m_reason, .int m_cause, .int m_orders, .int m_kindNow, .int m_placeNow])), (h_m_s, .inl (cI, 116, .inl m_s)), (h_m_past, .inl (cI, 464, .inl m_past)), (h_m_held, .inl (cI, 116, .inl m_held)), (h_m_text, .inl (cI, 60, .inl m_text)), (h_m_now, .inl (cI, 10, .inl u5)), (h_m_kept, .inl (cI, 16, .inl z1.2))]) hc m_X6_84 (c_X6_isOne l D cI cS X F h_m h_m_s h_m_past h_m_held h_m_text h_m_now h_m_kept m_pasts m_runs0 m_typed m_spot m_reason m_cause m_orders m_kindNow m_placeNow m_s m_past m_held m_text u5 z1.2 a1 hu16) 0 [0, 1, 2, 3, 4, 5, 6] rfl rfl (rmok_of (Nat.le_of_ble_eq_true rfl)) ⟨Nat.zero_le _, Nat.zero_le _⟩ rfl rfl rfl rfl rfl ⟨rfl, rfl, rfl⟩ dX6_finds_16 ?_
        refine G_if_eq (tgt := 31) hc dX6_finds_19 (by decide) (fun c23 => ?_) (fun c23 => ?_)
        · have h := ip h c23
          refine G_aload_n hc dX6_finds_31 rfl ?_
          obtain ⟨z17, hu18, h⟩ := ob h
          refine G_callVI (ws2 := [(h_m, .inr (6, [.ref h_m_s, .ref h_m_past, .ref h_m_held, .int m_pasts, .int m_runs0, .ref h_m_text, .int m_typed, .ref h_m_now, .ref h_m_kept, .int m_spot, .int m_reason, .int m_cause, .int m_orders, .int m_kindNow, .int m_placeNow])), (h_m_s, .inl (cI, 116, .inl m_s)), (h_m_past, .inl (cI, 464, .inl m_past)), (h_m_held, .inl (cI, 116, .inl m_held)), (h_m_text, .inl (cI, 60, .inl m_text)), (h_m_now, .inl (cI, 10, .inl z17.2)), (h_m_kept, .inl (cI, 16, .inl z1.2))]) hc m_X6_87 (c_X6_goes l D cI cS X F h_m h_m_s h_m_past h_m_held h_m_text h_m_now h_m_kept m_pasts m_runs0 m_typed m_spot m_reason m_cause m_orders m_kindNow m_placeNow m_s m_past m_held m_text u5 z1.2 hu18) 0 [0, 1, 2, 3, 4, 5, 6] rfl rfl (rmok_of (Nat.le_of_ble_eq_true rfl)) ⟨Nat.zero_le _, Nat.zero_le _⟩ rfl rfl rfl rfl rfl ⟨rfl, rfl, rfl⟩ dX6_finds_32 ?_
          refine G_istore (lv' := [(0, .ref h_m), (1, .int a1), (3, .int u3), (4, .int z17.1)]) hc dX6_finds_35 rfl rfl ?_
          refine G_goto (tgt := 9) hc dX6_finds_37 (by decide) ?_
          refine G_lv (lv' := [(0, .ref h_m), (1, .int a1), (3, .int u3), (4, .int z17.1)]) (lsame_cons rfl (lsame_cons rfl (lsame_cons rfl (lsame_cons rfl lsame_nil)))) ?_
          exact ih10 _ _ _ h
        · have h := inn h c23
          refine G_iload_n hc dX6_finds_22 rfl ?_
          refine G_if_ne (tgt := 28) hc dX6_finds_23 (by decide) (fun c22 => ?_) (fun c22 => ?_)
          · have h := inn h c22
            obtain ⟨v19, e_v19, h⟩ := sb h
            refine G_iinc (v := v19) (lv' := [(0, .ref h_m), (1, .int a1), (3, .int v19), (4, .int u4)]) hc dX6_finds_28 rfl (e_v19.trans rfl) rfl rfl ?_
            refine G_aload_n hc dX6_finds_31 rfl ?_
            obtain ⟨z20, hu21, h⟩ := ob h
            refine G_callVI (ws2 := [(h_m, .inr (6, [.ref h_m_s, .ref h_m_past, .ref h_m_held, .int m_pasts, .int m_runs0, .ref h_m_text, .int m_typed, .ref h_m_now, .ref h_m_kept, .int m_spot, .int m_reason, .int m_cause, .int m_orders, .int m_kindNow, .int m_placeNow])), (h_m_s, .inl (cI, 116, .inl m_s)), (h_m_past, .inl (cI, 464, .inl m_past)), (h_m_held, .inl (cI, 116, .inl m_held)), (h_m_text, .inl (cI, 60, .inl m_text)), (h_m_now, .inl (cI, 10, .inl z20.2)), (h_m_kept, .inl (cI, 16, .inl z1.2))]) hc m_X6_87 (c_X6_goes l D cI cS X F h_m h_m_s h_m_past h_m_held h_m_text h_m_now h_m_kept m_pasts m_runs0 m_typed m_spot m_reason m_cause m_orders m_kindNow m_placeNow m_s m_past m_held m_text u5 z1.2 hu21) 0 [0, 1, 2, 3, 4, 5, 6] rfl rfl (rmok_of (Nat.le_of_ble_eq_true rfl)) ⟨Nat.zero_le _, Nat.zero_le _⟩ rfl rfl rfl rfl rfl ⟨rfl, rfl, rfl⟩ dX6_finds_32 ?_
            refine G_istore (lv' := [(0, .ref h_m), (1, .int a1), (3, .int v19), (4, .int z20.1)]) hc dX6_finds_35 rfl rfl ?_
            refine G_goto (tgt := 9) hc dX6_finds_37 (by decide) ?_
            refine G_lv (lv' := [(0, .ref h_m), (1, .int a1), (3, .int v19), (4, .int z20.1)]) (lsame_cons rfl (lsame_cons rfl (lsame_cons rfl (lsame_cons rfl lsame_nil)))) ?_
            exact ih10 _ _ _ h
          · have h := ip h c22
            have h := Option.some.inj h
            subst h
            refine G_lv (lv' := []) lsame_nil ?_
            exact hK11 _ rfl
  refine G_lv (lv' := [(0, .ref h_m), (1, .int a1), (3, .int a2), (4, .int (1 : Int32))]) (lsame_cons rfl (lsame_cons rfl (lsame_cons rfl (lsame_cons rfl lsame_nil)))) ?_
  exact hL8 F _ _ _ hl7
set_option maxHeartbeats 4000000 in
set_option maxRecDepth 100000 in
theorem c_X6_shuffleAt (l : Launch) (D : va_G) (cI cS : ClassId) (X : XP) (F : Nat) (h_m h_m_s h_m_past h_m_held h_m_text h_m_now h_m_kept : Nat) (m_pasts : Int32) (m_runs0 : Int32) (m_typed : Int32) (m_spot : Int32) (m_reason : Int32) (m_cause : Int32) (m_orders : Int32) (m_kindNow : Int32) (m_placeNow : Int32) (m_s : Nat → Int32) (m_past : Nat → Int32) (m_held : Nat → Int32) (m_text : Nat → Int32) (m_now : Nat → Int32) (m_kept : Nat → Int32) (a1 : Int32) (a2 : Int32) (a3 : Int32) {res : Int32 × (Nat → Int32) × (Nat → Int32)} (h : f_X6_shuffleAt F m_s m_now m_kept a1 a2 a3 = some res) : CtI l D cI cS X yX6_shuffleAt cX6_shuffleAt 4 (some .int) 5 [.ref h_m, .int a1, .int a2, .int a3] [(h_m, .inr (6, [.ref h_m_s, .ref h_m_past, .ref h_m_held, .int m_pasts, .int m_runs0, .ref h_m_text, .int m_typed, .ref h_m_now, .ref h_m_kept, .int m_spot, .int m_reason, .int m_cause, .int m_orders, .int m_kindNow, .int m_placeNow])), (h_m_s, .inl (cI, 116, .inl m_s)), (h_m_past, .inl (cI, 464, .inl m_past)), (h_m_held, .inl (cI, 116, .inl m_held)), (h_m_text, .inl (cI, 60, .inl m_text)), (h_m_now, .inl (cI, 10, .inl m_now)), (h_m_kept, .inl (cI, 16, .inl m_kept))] (PoI res.1 [(h_m, .inr (6, [.ref h_m_s, .ref h_m_past, .ref h_m_held, .int m_pasts, .int m_runs0, .ref h_m_text, .int m_typed, .ref h_m_now, .ref h_m_kept, .int m_spot, .int m_reason, .int m_cause, .int m_orders, .int m_kindNow, .int m_placeNow])), (h_m_s, .inl (cI, 116, .inl m_s)), (h_m_past, .inl (cI, 464, .inl m_past)), (h_m_held, .inl (cI, 116, .inl m_held)), (h_m_text, .inl (cI, 60, .inl m_text)), (h_m_now, .inl (cI, 10, .inl res.2.1)), (h_m_kept, .inl (cI, 16, .inl res.2.2))]) := by
  refine CtI.of (by decide +kernel) rfl ?_
  intro p e s m below meth c A hc
  refine G_lv (lv' := [(0, .ref h_m), (1, .int a1), (2, .int a2), (3, .int a3)]) (lsame_cons rfl (lsame_cons rfl (lsame_cons rfl (lsame_cons rfl lsame_nil)))) ?_
  unfold f_X6_shuffleAt at h
  refine G_iload_n hc dX6_shuffleAt_0 rfl ?_
  obtain ⟨z1, hu2, h⟩ := ob h
  refine G_callSI (ws2 := [(h_m, .inr (6, [.ref h_m_s, .ref h_m_past, .ref h_m_held, .int m_pasts, .int m_runs0, .ref h_m_text, .int m_typed, .ref h_m_now, .ref h_m_kept, .int m_spot, .int m_reason, .int m_cause, .int m_orders, .int m_kindNow, .int m_placeNow])), (h_m_s, .inl (cI, 116, .inl m_s)), (h_m_past, .inl (cI, 464, .inl m_past)), (h_m_held, .inl (cI, 116, .inl m_held)), (h_m_text, .inl (cI, 60, .inl m_text)), (h_m_now, .inl (cI, 10, .inl m_now)), (h_m_kept, .inl (cI, 16, .inl m_kept))]) hc m_X6_40 (c_X6_is4 l D cI cS X F a1 hu2) [] (rmok_of (Nat.le_of_ble_eq_true rfl)) ⟨Nat.zero_le _, Nat.zero_le _⟩ rfl rfl rfl rfl rfl ⟨rfl, rfl, rfl⟩ dX6_shuffleAt_1 ?_
  refine G_if_eq (tgt := 15) hc dX6_shuffleAt_4 (by decide) (fun c14 => ?_) (fun c14 => ?_)
  · have h := ip h c14
    refine G_ldc (v := -1000001) hc k_X6_44 dX6_shuffleAt_15 ?_
    have h := Option.some.inj h
    subst h
    exact G_ireturn hc ⟨rfl, rfl⟩ dX6_shuffleAt_17
  · have h := inn h c14
    refine G_iload_n hc dX6_shuffleAt_7 rfl ?_
    refine G_if_lt (tgt := 15) hc dX6_shuffleAt_8 (by decide) (fun c13 => ?_) (fun c13 => ?_)
    · have h := ip h c13
      refine G_ldc (v := -1000001) hc k_X6_44 dX6_shuffleAt_15 ?_
      have h := Option.some.inj h
      subst h
      exact G_ireturn hc ⟨rfl, rfl⟩ dX6_shuffleAt_17
    · have h := inn h c13
      refine G_iload_n hc dX6_shuffleAt_11 rfl ?_
      refine G_if_ge (tgt := 18) hc dX6_shuffleAt_12 (by decide) (fun c12 => ?_) (fun c12 => ?_)
      · have h := ip h c12
        refine G_iload_n hc dX6_shuffleAt_18 rfl ?_
        refine G_aload_n hc dX6_shuffleAt_19 rfl ?_
        refine G_get hc f_X6_7 0 rfl rfl dX6_shuffleAt_20 ?_
        refine G_iconst (v := 0) hc dX6_shuffleAt_23 (by decide) ?_
        obtain ⟨v3, i_v3, e_v3, h⟩ := rb h
        refine G_iald hc 1 rfl i_v3 e_v3 dX6_shuffleAt_24 ?_
        obtain ⟨t4, hr6, h⟩ := ob h
        have hj5 : G p l e (rmk 5) s m [.ref h_m, .int a1, .int a2, .int a3].toArray below meth c D A 4 0 0 (QI below [.ref h_m, .int a1, .int a2, .int a3].toArray s D A (PoI res.1 [(h_m, .inr (6, [.ref h_m_s, .ref h_m_past, .ref h_m_held, .int m_pasts, .int m_runs0, .ref h_m_text, .int m_typed, .ref h_m_now, .ref h_m_kept, .int m_spot, .int m_reason, .int m_cause, .int m_orders, .int m_kindNow, .int m_placeNow])), (h_m_s, .inl (cI, 116, .inl m_s)), (h_m_past, .inl (cI, 464, .inl m_past)), (h_m_held, .inl (cI, 116, .inl m_held)), (h_m_text, .inl (cI, 60, .inl m_text)), (h_m_now, .inl (cI, 10, .inl res.2.1)), (h_m_kept, .inl (cI, 16, .inl res.2.2))])) [(h_m, .inr (6, [.ref h_m_s, .ref h_m_past, .ref h_m_held, .int m_pasts, .int m_runs0, .ref h_m_text, .int m_typed, .ref h_m_now, .ref h_m_kept, .int m_spot, .int m_reason, .int m_cause, .int m_orders, .int m_kindNow, .int m_placeNow])), (h_m_s, .inl (cI, 116, .inl m_s)), (h_m_past, .inl (cI, 464, .inl m_past)), (h_m_held, .inl (cI, 116, .inl m_held)), (h_m_text, .inl (cI, 60, .inl m_text)), (h_m_now, .inl (cI, 10, .inl t4.2.1)), (h_m_kept, .inl (cI, 16, .inl t4.2.2))] [] 48 [.int t4.1] := by
          have h := Option.some.inj h
          subst h
          exact G_ireturn hc ⟨rfl, rfl⟩ dX6_shuffleAt_48
        clear h
        have h := hr6
        clear hr6
        refine G_icmp_ge (tgt := 46) hc dX6_shuffleAt_25 (by decide) (fun c11 => ?_) (fun c11 => ?_)
        · have h := ip h c11
          refine G_ldc (v := -1000004) hc k_X6_50 dX6_shuffleAt_46 ?_
          have h := Option.some.inj h
          subst h
          refine G_lv (lv' := []) lsame_nil ?_
          exact hj5
        · have h := inn h c11
          refine G_aload_n hc dX6_shuffleAt_28 rfl ?_
          refine G_iload_n hc dX6_shuffleAt_29 rfl ?_
          refine G_iload_n hc dX6_shuffleAt_30 rfl ?_
          obtain ⟨z7, hu8, h⟩ := ob h
          refine G_callVI (ws2 := [(h_m, .inr (6, [.ref h_m_s, .ref h_m_past, .ref h_m_held, .int m_pasts, .int m_runs0, .ref h_m_text, .int m_typed, .ref h_m_now, .ref h_m_kept, .int m_spot, .int m_reason, .int m_cause, .int m_orders, .int m_kindNow, .int m_placeNow])), (h_m_s, .inl (cI, 116, .inl m_s)), (h_m_past, .inl (cI, 464, .inl m_past)), (h_m_held, .inl (cI, 116, .inl m_held)), (h_m_text, .inl (cI, 60, .inl m_text)), (h_m_now, .inl (cI, 10, .inl z7.2.1)), (h_m_kept, .inl (cI, 16, .inl z7.2.2))]) hc m_X6_97 (c_X6_finds l D cI cS X F h_m h_m_s h_m_past h_m_held h_m_text h_m_now h_m_kept m_pasts m_runs0 m_typed m_spot m_reason m_cause m_orders m_kindNow m_placeNow m_s m_past m_held m_text m_now m_kept a1 a2 hu8) 0 [0, 1, 2, 3, 4, 5, 6] rfl rfl (rmok_of (Nat.le_of_ble_eq_true rfl)) ⟨Nat.zero_le _, Nat.zero_le _⟩ rfl rfl rfl rfl rfl ⟨rfl, rfl, rfl⟩ dX6_shuffleAt_31 ?_
          refine G_if_eq (tgt := 46) hc dX6_shuffleAt_34 (by decide) (fun c10 => ?_) (fun c10 => ?_)
          · have h := ip h c10
            refine G_ldc (v := -1000004) hc k_X6_50 dX6_shuffleAt_46 ?_
            have h := Option.some.inj h
            subst h
            refine G_lv (lv' := []) lsame_nil ?_
            exact hj5
          · have h := inn h c10
            refine G_aload_n hc dX6_shuffleAt_37 rfl ?_
            refine G_get hc f_X6_22 0 rfl rfl dX6_shuffleAt_38 ?_
            refine G_iload_n hc dX6_shuffleAt_41 rfl ?_
            obtain ⟨v9, i_v9, e_v9, h⟩ := rb h
            refine G_iald hc 5 rfl i_v9 e_v9 dX6_shuffleAt_42 ?_
            refine G_goto (tgt := 48) hc dX6_shuffleAt_43 (by decide) ?_
            have h := Option.some.inj h
            subst h
            refine G_lv (lv' := []) lsame_nil ?_
            exact hj5
      · have h := inn h c12
        refine G_ldc (v := -1000001) hc k_X6_44 dX6_shuffleAt_15 ?_
        have h := Option.some.inj h
        subst h
        exact G_ireturn hc ⟨rfl, rfl⟩ dX6_shuffleAt_17
set_option maxHeartbeats 4000000 in
set_option maxRecDepth 100000 in
theorem c_X6_takes (l : Launch) (D : va_G) (cI cS : ClassId) (X : XP) (F : Nat) (h_m h_m_s h_m_past h_m_held h_m_text h_m_now h_m_kept : Nat) (m_pasts : Int32) (m_runs0 : Int32) (m_typed : Int32) (m_spot : Int32) (m_reason : Int32) (m_cause : Int32) (m_orders : Int32) (m_kindNow : Int32) (m_placeNow : Int32) (m_s : Nat → Int32) (m_past : Nat → Int32) (m_held : Nat → Int32) (m_text : Nat → Int32) (m_now : Nat → Int32) (m_kept : Nat → Int32) {res : (Nat → Int32)} (h : f_X6_takes F m_s m_now = some res) : CtV l D cI cS X yX6_takes cX6_takes 2 1 [.ref h_m] [(h_m, .inr (6, [.ref h_m_s, .ref h_m_past, .ref h_m_held, .int m_pasts, .int m_runs0, .ref h_m_text, .int m_typed, .ref h_m_now, .ref h_m_kept, .int m_spot, .int m_reason, .int m_cause, .int m_orders, .int m_kindNow, .int m_placeNow])), (h_m_s, .inl (cI, 116, .inl m_s)), (h_m_past, .inl (cI, 464, .inl m_past)), (h_m_held, .inl (cI, 116, .inl m_held)), (h_m_text, .inl (cI, 60, .inl m_text)), (h_m_now, .inl (cI, 10, .inl m_now)), (h_m_kept, .inl (cI, 16, .inl m_kept))] (PoV [(h_m, .inr (6, [.ref h_m_s, .ref h_m_past, .ref h_m_held, .int m_pasts, .int m_runs0, .ref h_m_text, .int m_typed, .ref h_m_now, .ref h_m_kept, .int m_spot, .int m_reason, .int m_cause, .int m_orders, .int m_kindNow, .int m_placeNow])), (h_m_s, .inl (cI, 116, .inl res)), (h_m_past, .inl (cI, 464, .inl m_past)), (h_m_held, .inl (cI, 116, .inl m_held)), (h_m_text, .inl (cI, 60, .inl m_text)), (h_m_now, .inl (cI, 10, .inl m_now)), (h_m_kept, .inl (cI, 16, .inl m_kept))]) := by
  refine CtV.of (by decide +kernel) rfl ?_
  intro p e s m below meth c A hc
  refine G_lv (lv' := [(0, .ref h_m)]) (lsame_cons rfl lsame_nil) ?_
  unfold f_X6_takes at h
  refine G_iconst (v := 0) hc dX6_takes_0 (by decide) ?_
  refine G_istore_n (lv' := [(0, .ref h_m), (1, .int (0 : Int32))]) hc dX6_takes_1 rfl rfl ?_
  obtain ⟨e3, hl4, h⟩ := ob h
  have hK8 : G p l e (rmk 1) s m [.ref h_m].toArray below meth c D A 2 0 0 (QV below [.ref h_m].toArray s D A (PoV [(h_m, .inr (6, [.ref h_m_s, .ref h_m_past, .ref h_m_held, .int m_pasts, .int m_runs0, .ref h_m_text, .int m_typed, .ref h_m_now, .ref h_m_kept, .int m_spot, .int m_reason, .int m_cause, .int m_orders, .int m_kindNow, .int m_placeNow])), (h_m_s, .inl (cI, 116, .inl res)), (h_m_past, .inl (cI, 464, .inl m_past)), (h_m_held, .inl (cI, 116, .inl m_held)), (h_m_text, .inl (cI, 60, .inl m_text)), (h_m_now, .inl (cI, 10, .inl m_now)), (h_m_kept, .inl (cI, 16, .inl m_kept))])) [(h_m, .inr (6, [.ref h_m_s, .ref h_m_past, .ref h_m_held, .int m_pasts, .int m_runs0, .ref h_m_text, .int m_typed, .ref h_m_now, .ref h_m_kept, .int m_spot, .int m_reason, .int m_cause, .int m_orders, .int m_kindNow, .int m_placeNow])), (h_m_s, .inl (cI, 116, .inl e3)), (h_m_past, .inl (cI, 464, .inl m_past)), (h_m_held, .inl (cI, 116, .inl m_held)), (h_m_text, .inl (cI, 60, .inl m_text)), (h_m_now, .inl (cI, 10, .inl m_now)), (h_m_kept, .inl (cI, 16, .inl m_kept))] [] 32 [] := by
    have h := Option.some.inj h
    subst h
    exact G_return hc rfl dX6_takes_32
  clear h
  have hL5 : ∀ (n6 : Nat) (u1 : Int32) (u2 : Nat → Int32), f_X6_takes_L2 F m_now n6 u1 u2 = some e3 → G p l e (rmk 1) s m [.ref h_m].toArray below meth c D A 2 0 0 (QV below [.ref h_m].toArray s D A (PoV [(h_m, .inr (6, [.ref h_m_s, .ref h_m_past, .ref h_m_held, .int m_pasts, .int m_runs0, .ref h_m_text, .int m_typed, .ref h_m_now, .ref h_m_kept, .int m_spot, .int m_reason, .int m_cause, .int m_orders, .int m_kindNow, .int m_placeNow])), (h_m_s, .inl (cI, 116, .inl res)), (h_m_past, .inl (cI, 464, .inl m_past)), (h_m_held, .inl (cI, 116, .inl m_held)), (h_m_text, .inl (cI, 60, .inl m_text)), (h_m_now, .inl (cI, 10, .inl m_now)), (h_m_kept, .inl (cI, 16, .inl m_kept))])) [(h_m, .inr (6, [.ref h_m_s, .ref h_m_past, .ref h_m_held, .int m_pasts, .int m_runs0, .ref h_m_text, .int m_typed, .ref h_m_now, .ref h_m_kept, .int m_spot, .int m_reason, .int m_cause, .int m_orders, .int m_kindNow, .int m_placeNow])), (h_m_s, .inl (cI, 116, .inl u2)), (h_m_past, .inl (cI, 464, .inl m_past)), (h_m_held, .inl (cI, 116, .inl m_held)), (h_m_text, .inl (cI, 60, .inl m_text)), (h_m_now, .inl (cI, 10, .inl m_now)), (h_m_kept, .inl (cI, 16, .inl m_kept))] [(0, .ref h_m), (1, .int u1)] 2 [] := by
    intro n6
    induction n6 with
    | zero =>
      intro u1 u2 h
      exact nz h
    | succ n6 ih7 =>
      intro u1 u2 h
      rw [f_X6_takes_L2] at h
      refine G_iload_n hc dX6_takes_2 rfl ?_
      refine G_aload_n hc dX6_takes_3 rfl ?_
      refine G_get hc f_X6_7 0 rfl rfl dX6_takes_4 ?_
      refine G_iconst (v := 0) hc dX6_takes_7 (by decide) ?_
      obtain ⟨v9, i_v9, e_v9, h⟩ := rb h
      refine G_iald hc 1 rfl i_v9 e_v9 dX6_takes_8 ?_
      refine G_icmp_ge (tgt := 32) hc dX6_takes_9 (by decide) (fun c13 => ?_) (fun c13 => ?_)
      · have h := ip h c13
        have h := Option.some.inj h
        subst h
        refine G_lv (lv' := []) lsame_nil ?_
        exact hK8
      · have h := inn h c13
        refine G_aload_n hc dX6_takes_12 rfl ?_
        refine G_get hc f_X6_7 0 rfl rfl dX6_takes_13 ?_
        refine G_iconst (v := 1) hc dX6_takes_16 (by decide) ?_
        refine G_iload_n hc dX6_takes_17 rfl ?_
        refine G_iadd hc dX6_takes_18 ?_
        refine G_aload_n hc dX6_takes_19 rfl ?_
        refine G_get hc f_X6_22 0 rfl rfl dX6_takes_20 ?_
        refine G_iload_n hc dX6_takes_23 rfl ?_
        obtain ⟨v10, i_v10, e_v10, h⟩ := rb h
        refine G_iald hc 5 rfl i_v10 e_v10 dX6_takes_24 ?_
        obtain ⟨v11, i_v11, e_v11, h⟩ := wb h
        refine G_iast (ws' := [(h_m, .inr (6, [.ref h_m_s, .ref h_m_past, .ref h_m_held, .int m_pasts, .int m_runs0, .ref h_m_text, .int m_typed, .ref h_m_now, .ref h_m_kept, .int m_spot, .int m_reason, .int m_cause, .int m_orders, .int m_kindNow, .int m_placeNow])), (h_m_s, .inl (cI, 116, .inl v11)), (h_m_past, .inl (cI, 464, .inl m_past)), (h_m_held, .inl (cI, 116, .inl m_held)), (h_m_text, .inl (cI, 60, .inl m_text)), (h_m_now, .inl (cI, 10, .inl m_now)), (h_m_kept, .inl (cI, 16, .inl m_kept))]) hc 1 rfl i_v11 e_v11 rfl dX6_takes_25 ?_
        obtain ⟨v12, e_v12, h⟩ := sb h
        refine G_iinc (v := v12) (lv' := [(0, .ref h_m), (1, .int v12)]) hc dX6_takes_26 rfl (e_v12.trans rfl) rfl rfl ?_
        refine G_goto (tgt := 2) hc dX6_takes_29 (by decide) ?_
        refine G_lv (lv' := [(0, .ref h_m), (1, .int v12)]) (lsame_cons rfl (lsame_cons rfl lsame_nil)) ?_
        exact ih7 _ _ h
  refine G_lv (lv' := [(0, .ref h_m), (1, .int (0 : Int32))]) (lsame_cons rfl (lsame_cons rfl lsame_nil)) ?_
  exact hL5 F _ _ hl4
set_option maxHeartbeats 4000000 in
set_option maxRecDepth 100000 in
theorem c_X6_moves (l : Launch) (D : va_G) (cI cS : ClassId) (X : XP) (F : Nat) (h_m h_m_s h_m_past h_m_held h_m_text h_m_now h_m_kept : Nat) (m_pasts : Int32) (m_runs0 : Int32) (m_typed : Int32) (m_spot : Int32) (m_reason : Int32) (m_cause : Int32) (m_orders : Int32) (m_kindNow : Int32) (m_placeNow : Int32) (m_s : Nat → Int32) (m_past : Nat → Int32) (m_held : Nat → Int32) (m_text : Nat → Int32) (m_now : Nat → Int32) (m_kept : Nat → Int32) (a1 : Int32) (a2 : Int32) {res : Int32 × Int32 × (Nat → Int32) × (Nat → Int32) × (Nat → Int32) × (Nat → Int32)} (h : f_X6_moves F m_pasts m_runs0 m_s m_past m_now m_kept a1 a2 = some res) : CtI l D cI cS X yX6_moves cX6_moves 3 (some .int) 5 [.ref h_m, .int a1, .int a2] [(h_m, .inr (6, [.ref h_m_s, .ref h_m_past, .ref h_m_held, .int m_pasts, .int m_runs0, .ref h_m_text, .int m_typed, .ref h_m_now, .ref h_m_kept, .int m_spot, .int m_reason, .int m_cause, .int m_orders, .int m_kindNow, .int m_placeNow])), (h_m_s, .inl (cI, 116, .inl m_s)), (h_m_past, .inl (cI, 464, .inl m_past)), (h_m_held, .inl (cI, 116, .inl m_held)), (h_m_text, .inl (cI, 60, .inl m_text)), (h_m_now, .inl (cI, 10, .inl m_now)), (h_m_kept, .inl (cI, 16, .inl m_kept))] (PoI res.1 [(h_m, .inr (6, [.ref h_m_s, .ref h_m_past, .ref h_m_held, .int res.2.1, .int m_runs0, .ref h_m_text, .int m_typed, .ref h_m_now, .ref h_m_kept, .int m_spot, .int m_reason, .int m_cause, .int m_orders, .int m_kindNow, .int m_placeNow])), (h_m_s, .inl (cI, 116, .inl res.2.2.1)), (h_m_past, .inl (cI, 464, .inl res.2.2.2.1)), (h_m_held, .inl (cI, 116, .inl m_held)), (h_m_text, .inl (cI, 60, .inl m_text)), (h_m_now, .inl (cI, 10, .inl res.2.2.2.2.1)), (h_m_kept, .inl (cI, 16, .inl res.2.2.2.2.2))]) := by
  refine CtI.of (by decide +kernel) rfl ?_
  intro p e s m below meth c A hc
  refine G_lv (lv' := [(0, .ref h_m), (1, .int a1), (2, .int a2)]) (lsame_cons rfl (lsame_cons rfl (lsame_cons rfl lsame_nil))) ?_
  unfold f_X6_moves at h
  refine G_iload_n hc dX6_moves_0 rfl ?_
  refine G_if_lt (tgt := 13) hc dX6_moves_1 (by decide) (fun c8 => ?_) (fun c8 => ?_)
  · have h := ip h c8
    refine G_ldc (v := -1000002) hc k_X6_49 dX6_moves_13 ?_
    have h := Option.some.inj h
    subst h
    exact G_ireturn hc ⟨rfl, rfl⟩ dX6_moves_15
  · have h := inn h c8
    refine G_aload_n hc dX6_moves_4 rfl ?_
    refine G_iload_n hc dX6_moves_5 rfl ?_
    refine G_iload_n hc dX6_moves_6 rfl ?_
    obtain ⟨z1, hu2, h⟩ := ob h
    refine G_callVI (ws2 := [(h_m, .inr (6, [.ref h_m_s, .ref h_m_past, .ref h_m_held, .int m_pasts, .int m_runs0, .ref h_m_text, .int m_typed, .ref h_m_now, .ref h_m_kept, .int m_spot, .int m_reason, .int m_cause, .int m_orders, .int m_kindNow, .int m_placeNow])), (h_m_s, .inl (cI, 116, .inl m_s)), (h_m_past, .inl (cI, 464, .inl m_past)), (h_m_held, .inl (cI, 116, .inl m_held)), (h_m_text, .inl (cI, 60, .inl m_text)), (h_m_now, .inl (cI, 10, .inl z1.2.1)), (h_m_kept, .inl (cI, 16, .inl z1.2.2))]) hc m_X6_97 (c_X6_finds l D cI cS X F h_m h_m_s h_m_past h_m_held h_m_text h_m_now h_m_kept m_pasts m_runs0 m_typed m_spot m_reason m_cause m_orders m_kindNow m_placeNow m_s m_past m_held m_text m_now m_kept a1 a2 hu2) 0 [0, 1, 2, 3, 4, 5, 6] rfl rfl (rmok_of (Nat.le_of_ble_eq_true rfl)) ⟨Nat.zero_le _, Nat.zero_le _⟩ rfl rfl rfl rfl rfl ⟨rfl, rfl, rfl⟩ dX6_moves_7 ?_
    refine G_if_ne (tgt := 16) hc dX6_moves_10 (by decide) (fun c7 => ?_) (fun c7 => ?_)
    · have h := inn h c7
      refine G_aload_n hc dX6_moves_16 rfl ?_
      obtain ⟨z3, hu4, h⟩ := ob h
      refine G_callVV (ws2 := [(h_m, .inr (6, [.ref h_m_s, .ref h_m_past, .ref h_m_held, .int z3.1, .int m_runs0, .ref h_m_text, .int m_typed, .ref h_m_now, .ref h_m_kept, .int m_spot, .int m_reason, .int m_cause, .int m_orders, .int m_kindNow, .int m_placeNow])), (h_m_s, .inl (cI, 116, .inl m_s)), (h_m_past, .inl (cI, 464, .inl z3.2)), (h_m_held, .inl (cI, 116, .inl m_held)), (h_m_text, .inl (cI, 60, .inl m_text)), (h_m_now, .inl (cI, 10, .inl z1.2.1)), (h_m_kept, .inl (cI, 16, .inl z1.2.2))]) hc m_X6_46 (c_X6_changes l D cI cS X F h_m h_m_s h_m_past h_m_held h_m_text h_m_now h_m_kept m_pasts m_runs0 m_typed m_spot m_reason m_cause m_orders m_kindNow m_placeNow m_s m_past m_held m_text z1.2.1 z1.2.2 hu4) 0 [0, 1, 2, 3, 4, 5, 6] rfl rfl (rmok_of (Nat.le_of_ble_eq_true rfl)) ⟨Nat.zero_le _, Nat.zero_le _⟩ rfl rfl rfl rfl rfl ⟨rfl, rfl, rfl⟩ dX6_moves_17 ?_
      refine G_aload_n hc dX6_moves_20 rfl ?_
      obtain ⟨z5, hu6, h⟩ := ob h
      refine G_callVV (ws2 := [(h_m, .inr (6, [.ref h_m_s, .ref h_m_past, .ref h_m_held, .int z3.1, .int m_runs0, .ref h_m_text, .int m_typed, .ref h_m_now, .ref h_m_kept, .int m_spot, .int m_reason, .int m_cause, .int m_orders, .int m_kindNow, .int m_placeNow])), (h_m_s, .inl (cI, 116, .inl z5)), (h_m_past, .inl (cI, 464, .inl z3.2)), (h_m_held, .inl (cI, 116, .inl m_held)), (h_m_text, .inl (cI, 60, .inl m_text)), (h_m_now, .inl (cI, 10, .inl z1.2.1)), (h_m_kept, .inl (cI, 16, .inl z1.2.2))]) hc m_X6_101 (c_X6_takes l D cI cS X F h_m h_m_s h_m_past h_m_held h_m_text h_m_now h_m_kept z3.1 m_runs0 m_typed m_spot m_reason m_cause m_orders m_kindNow m_placeNow m_s z3.2 m_held m_text z1.2.1 z1.2.2 hu6) 0 [0, 1, 2, 3, 4, 5, 6] rfl rfl (rmok_of (Nat.le_of_ble_eq_true rfl)) ⟨Nat.zero_le _, Nat.zero_le _⟩ rfl rfl rfl rfl rfl ⟨rfl, rfl, rfl⟩ dX6_moves_21 ?_
      refine G_iload_n hc dX6_moves_24 rfl ?_
      have h := Option.some.inj h
      subst h
      exact G_ireturn hc ⟨rfl, rfl⟩ dX6_moves_25
    · have h := ip h c7
      refine G_ldc (v := -1000002) hc k_X6_49 dX6_moves_13 ?_
      have h := Option.some.inj h
      subst h
      exact G_ireturn hc ⟨rfl, rfl⟩ dX6_moves_15
set_option maxHeartbeats 4000000 in
set_option maxRecDepth 100000 in
theorem c_X6_next (l : Launch) (D : va_G) (cI cS : ClassId) (X : XP) (F : Nat) (h_m h_m_s h_m_past h_m_held h_m_text h_m_now h_m_kept : Nat) (m_pasts : Int32) (m_runs0 : Int32) (m_typed : Int32) (m_spot : Int32) (m_reason : Int32) (m_cause : Int32) (m_orders : Int32) (m_kindNow : Int32) (m_placeNow : Int32) (m_s : Nat → Int32) (m_past : Nat → Int32) (m_held : Nat → Int32) (m_text : Nat → Int32) (m_now : Nat → Int32) (m_kept : Nat → Int32) (a1 : Int32) {res : Int32 × Int32 × (Nat → Int32) × (Nat → Int32) × (Nat → Int32) × (Nat → Int32)} (h : f_X6_next F m_pasts m_runs0 m_s m_past m_now m_kept a1 = some res) : CtI l D cI cS X yX6_next cX6_next 2 (some .int) 6 [.ref h_m, .int a1] [(h_m, .inr (6, [.ref h_m_s, .ref h_m_past, .ref h_m_held, .int m_pasts, .int m_runs0, .ref h_m_text, .int m_typed, .ref h_m_now, .ref h_m_kept, .int m_spot, .int m_reason, .int m_cause, .int m_orders, .int m_kindNow, .int m_placeNow])), (h_m_s, .inl (cI, 116, .inl m_s)), (h_m_past, .inl (cI, 464, .inl m_past)), (h_m_held, .inl (cI, 116, .inl m_held)), (h_m_text, .inl (cI, 60, .inl m_text)), (h_m_now, .inl (cI, 10, .inl m_now)), (h_m_kept, .inl (cI, 16, .inl m_kept))] (PoI res.1 [(h_m, .inr (6, [.ref h_m_s, .ref h_m_past, .ref h_m_held, .int res.2.1, .int m_runs0, .ref h_m_text, .int m_typed, .ref h_m_now, .ref h_m_kept, .int m_spot, .int m_reason, .int m_cause, .int m_orders, .int m_kindNow, .int m_placeNow])), (h_m_s, .inl (cI, 116, .inl res.2.2.1)), (h_m_past, .inl (cI, 464, .inl res.2.2.2.1)), (h_m_held, .inl (cI, 116, .inl m_held)), (h_m_text, .inl (cI, 60, .inl m_text)), (h_m_now, .inl (cI, 10, .inl res.2.2.2.2.1)), (h_m_kept, .inl (cI, 16, .inl res.2.2.2.2.2))]) := by
  refine CtI.of (by decide +kernel) rfl ?_
  intro p e s m below meth c A hc
  refine G_lv (lv' := [(0, .ref h_m), (1, .int a1)]) (lsame_cons rfl (lsame_cons rfl lsame_nil)) ?_
  unfold f_X6_next at h
  refine G_iload_n hc dX6_next_0 rfl ?_
  obtain ⟨z1, hu2, h⟩ := ob h
  refine G_callSI (ws2 := [(h_m, .inr (6, [.ref h_m_s, .ref h_m_past, .ref h_m_held, .int m_pasts, .int m_runs0, .ref h_m_text, .int m_typed, .ref h_m_now, .ref h_m_kept, .int m_spot, .int m_reason, .int m_cause, .int m_orders, .int m_kindNow, .int m_placeNow])), (h_m_s, .inl (cI, 116, .inl m_s)), (h_m_past, .inl (cI, 464, .inl m_past)), (h_m_held, .inl (cI, 116, .inl m_held)), (h_m_text, .inl (cI, 60, .inl m_text)), (h_m_now, .inl (cI, 10, .inl m_now)), (h_m_kept, .inl (cI, 16, .inl m_kept))]) hc m_X6_40 (c_X6_is4 l D cI cS X F a1 hu2) [] (rmok_of (Nat.le_of_ble_eq_true rfl)) ⟨Nat.zero_le _, Nat.zero_le _⟩ rfl rfl rfl rfl rfl ⟨rfl, rfl, rfl⟩ dX6_next_1 ?_
  obtain ⟨t3, hr5, h⟩ := ob h
  have hj4 : G p l e (rmk 6) s m [.ref h_m, .int a1].toArray below meth c D A 2 0 0 (QI below [.ref h_m, .int a1].toArray s D A (PoI res.1 [(h_m, .inr (6, [.ref h_m_s, .ref h_m_past, .ref h_m_held, .int res.2.1, .int m_runs0, .ref h_m_text, .int m_typed, .ref h_m_now, .ref h_m_kept, .int m_spot, .int m_reason, .int m_cause, .int m_orders, .int m_kindNow, .int m_placeNow])), (h_m_s, .inl (cI, 116, .inl res.2.2.1)), (h_m_past, .inl (cI, 464, .inl res.2.2.2.1)), (h_m_held, .inl (cI, 116, .inl m_held)), (h_m_text, .inl (cI, 60, .inl m_text)), (h_m_now, .inl (cI, 10, .inl res.2.2.2.2.1)), (h_m_kept, .inl (cI, 16, .inl res.2.2.2.2.2))])) [(h_m, .inr (6, [.ref h_m_s, .ref h_m_past, .ref h_m_held, .int t3.2.1, .int m_runs0, .ref h_m_text, .int m_typed, .ref h_m_now, .ref h_m_kept, .int m_spot, .int m_reason, .int m_cause, .int m_orders, .int m_kindNow, .int m_placeNow])), (h_m_s, .inl (cI, 116, .inl t3.2.2.1)), (h_m_past, .inl (cI, 464, .inl t3.2.2.2.1)), (h_m_held, .inl (cI, 116, .inl m_held)), (h_m_text, .inl (cI, 60, .inl m_text)), (h_m_now, .inl (cI, 10, .inl t3.2.2.2.2.1)), (h_m_kept, .inl (cI, 16, .inl t3.2.2.2.2.2))] [] 24 [.int t3.1] := by
    have h := Option.some.inj h
    subst h
    exact G_ireturn hc ⟨rfl, rfl⟩ dX6_next_24
  clear h
  have h := hr5
  clear hr5
  refine G_if_eq (tgt := 22) hc dX6_next_4 (by decide) (fun c10 => ?_) (fun c10 => ?_)
  · have h := ip h c10
    refine G_ldc (v := -1000001) hc k_X6_44 dX6_next_22 ?_
    have h := Option.some.inj h
    subst h
    refine G_lv (lv' := []) lsame_nil ?_
    exact hj4
  · have h := inn h c10
    refine G_aload_n hc dX6_next_7 rfl ?_
    refine G_iload_n hc dX6_next_8 rfl ?_
    refine G_aload_n hc dX6_next_9 rfl ?_
    refine G_iload_n hc dX6_next_10 rfl ?_
    obtain ⟨z6, hu7, h⟩ := ob h
    refine G_callVI (ws2 := [(h_m, .inr (6, [.ref h_m_s, .ref h_m_past, .ref h_m_held, .int m_pasts, .int m_runs0, .ref h_m_text, .int m_typed, .ref h_m_now, .ref h_m_kept, .int m_spot, .int m_reason, .int m_cause, .int m_orders, .int m_kindNow, .int m_placeNow])), (h_m_s, .inl (cI, 116, .inl m_s)), (h_m_past, .inl (cI, 464, .inl m_past)), (h_m_held, .inl (cI, 116, .inl m_held)), (h_m_text, .inl (cI, 60, .inl m_text)), (h_m_now, .inl (cI, 10, .inl z6.2.1)), (h_m_kept, .inl (cI, 16, .inl z6.2.2))]) hc m_X6_94 (c_X6_place l D cI cS X F h_m h_m_s h_m_past h_m_held h_m_text h_m_now h_m_kept m_pasts m_runs0 m_typed m_spot m_reason m_cause m_orders m_kindNow m_placeNow m_s m_past m_held m_text m_now m_kept a1 hu7) 0 [0, 1, 2, 3, 4, 5, 6] rfl rfl (rmok_of (Nat.le_of_ble_eq_true rfl)) ⟨Nat.zero_le _, Nat.zero_le _⟩ rfl rfl rfl rfl rfl ⟨rfl, rfl, rfl⟩ dX6_next_11 ?_
    refine G_iconst (v := 1) hc dX6_next_14 (by decide) ?_
    refine G_iadd hc dX6_next_15 ?_
    obtain ⟨z8, hu9, h⟩ := ob h
    refine G_callVI (ws2 := [(h_m, .inr (6, [.ref h_m_s, .ref h_m_past, .ref h_m_held, .int z8.2.1, .int m_runs0, .ref h_m_text, .int m_typed, .ref h_m_now, .ref h_m_kept, .int m_spot, .int m_reason, .int m_cause, .int m_orders, .int m_kindNow, .int m_placeNow])), (h_m_s, .inl (cI, 116, .inl z8.2.2.1)), (h_m_past, .inl (cI, 464, .inl z8.2.2.2.1)), (h_m_held, .inl (cI, 116, .inl m_held)), (h_m_text, .inl (cI, 60, .inl m_text)), (h_m_now, .inl (cI, 10, .inl z8.2.2.2.2.1)), (h_m_kept, .inl (cI, 16, .inl z8.2.2.2.2.2))]) hc m_X6_104 (c_X6_moves l D cI cS X F h_m h_m_s h_m_past h_m_held h_m_text h_m_now h_m_kept m_pasts m_runs0 m_typed m_spot m_reason m_cause m_orders m_kindNow m_placeNow m_s m_past m_held m_text z6.2.1 z6.2.2 a1 (z6.1 + (1 : Int32)) hu9) 0 [0, 1, 2, 3, 4, 5, 6] rfl rfl (rmok_of (Nat.le_of_ble_eq_true rfl)) ⟨Nat.zero_le _, Nat.zero_le _⟩ rfl rfl rfl rfl rfl ⟨rfl, rfl, rfl⟩ dX6_next_16 ?_
    refine G_goto (tgt := 24) hc dX6_next_19 (by decide) ?_
    have h := Option.some.inj h
    subst h
    refine G_lv (lv' := []) lsame_nil ?_
    exact hj4
set_option maxHeartbeats 4000000 in
set_option maxRecDepth 100000 in
theorem c_X6_back (l : Launch) (D : va_G) (cI cS : ClassId) (X : XP) (F : Nat) (h_m h_m_s h_m_past h_m_held h_m_text h_m_now h_m_kept : Nat) (m_pasts : Int32) (m_runs0 : Int32) (m_typed : Int32) (m_spot : Int32) (m_reason : Int32) (m_cause : Int32) (m_orders : Int32) (m_kindNow : Int32) (m_placeNow : Int32) (m_s : Nat → Int32) (m_past : Nat → Int32) (m_held : Nat → Int32) (m_text : Nat → Int32) (m_now : Nat → Int32) (m_kept : Nat → Int32) (a1 : Int32) {res : Int32 × Int32 × (Nat → Int32) × (Nat → Int32) × (Nat → Int32) × (Nat → Int32)} (h : f_X6_back F m_pasts m_runs0 m_s m_past m_now m_kept a1 = some res) : CtI l D cI cS X yX6_back cX6_back 2 (some .int) 6 [.ref h_m, .int a1] [(h_m, .inr (6, [.ref h_m_s, .ref h_m_past, .ref h_m_held, .int m_pasts, .int m_runs0, .ref h_m_text, .int m_typed, .ref h_m_now, .ref h_m_kept, .int m_spot, .int m_reason, .int m_cause, .int m_orders, .int m_kindNow, .int m_placeNow])), (h_m_s, .inl (cI, 116, .inl m_s)), (h_m_past, .inl (cI, 464, .inl m_past)), (h_m_held, .inl (cI, 116, .inl m_held)), (h_m_text, .inl (cI, 60, .inl m_text)), (h_m_now, .inl (cI, 10, .inl m_now)), (h_m_kept, .inl (cI, 16, .inl m_kept))] (PoI res.1 [(h_m, .inr (6, [.ref h_m_s, .ref h_m_past, .ref h_m_held, .int res.2.1, .int m_runs0, .ref h_m_text, .int m_typed, .ref h_m_now, .ref h_m_kept, .int m_spot, .int m_reason, .int m_cause, .int m_orders, .int m_kindNow, .int m_placeNow])), (h_m_s, .inl (cI, 116, .inl res.2.2.1)), (h_m_past, .inl (cI, 464, .inl res.2.2.2.1)), (h_m_held, .inl (cI, 116, .inl m_held)), (h_m_text, .inl (cI, 60, .inl m_text)), (h_m_now, .inl (cI, 10, .inl res.2.2.2.2.1)), (h_m_kept, .inl (cI, 16, .inl res.2.2.2.2.2))]) := by
  refine CtI.of (by decide +kernel) rfl ?_
  intro p e s m below meth c A hc
  refine G_lv (lv' := [(0, .ref h_m), (1, .int a1)]) (lsame_cons rfl (lsame_cons rfl lsame_nil)) ?_
  unfold f_X6_back at h
  refine G_iload_n hc dX6_back_0 rfl ?_
  obtain ⟨z1, hu2, h⟩ := ob h
  refine G_callSI (ws2 := [(h_m, .inr (6, [.ref h_m_s, .ref h_m_past, .ref h_m_held, .int m_pasts, .int m_runs0, .ref h_m_text, .int m_typed, .ref h_m_now, .ref h_m_kept, .int m_spot, .int m_reason, .int m_cause, .int m_orders, .int m_kindNow, .int m_placeNow])), (h_m_s, .inl (cI, 116, .inl m_s)), (h_m_past, .inl (cI, 464, .inl m_past)), (h_m_held, .inl (cI, 116, .inl m_held)), (h_m_text, .inl (cI, 60, .inl m_text)), (h_m_now, .inl (cI, 10, .inl m_now)), (h_m_kept, .inl (cI, 16, .inl m_kept))]) hc m_X6_40 (c_X6_is4 l D cI cS X F a1 hu2) [] (rmok_of (Nat.le_of_ble_eq_true rfl)) ⟨Nat.zero_le _, Nat.zero_le _⟩ rfl rfl rfl rfl rfl ⟨rfl, rfl, rfl⟩ dX6_back_1 ?_
  obtain ⟨t3, hr5, h⟩ := ob h
  have hj4 : G p l e (rmk 6) s m [.ref h_m, .int a1].toArray below meth c D A 2 0 0 (QI below [.ref h_m, .int a1].toArray s D A (PoI res.1 [(h_m, .inr (6, [.ref h_m_s, .ref h_m_past, .ref h_m_held, .int res.2.1, .int m_runs0, .ref h_m_text, .int m_typed, .ref h_m_now, .ref h_m_kept, .int m_spot, .int m_reason, .int m_cause, .int m_orders, .int m_kindNow, .int m_placeNow])), (h_m_s, .inl (cI, 116, .inl res.2.2.1)), (h_m_past, .inl (cI, 464, .inl res.2.2.2.1)), (h_m_held, .inl (cI, 116, .inl m_held)), (h_m_text, .inl (cI, 60, .inl m_text)), (h_m_now, .inl (cI, 10, .inl res.2.2.2.2.1)), (h_m_kept, .inl (cI, 16, .inl res.2.2.2.2.2))])) [(h_m, .inr (6, [.ref h_m_s, .ref h_m_past, .ref h_m_held, .int t3.2.1, .int m_runs0, .ref h_m_text, .int m_typed, .ref h_m_now, .ref h_m_kept, .int m_spot, .int m_reason, .int m_cause, .int m_orders, .int m_kindNow, .int m_placeNow])), (h_m_s, .inl (cI, 116, .inl t3.2.2.1)), (h_m_past, .inl (cI, 464, .inl t3.2.2.2.1)), (h_m_held, .inl (cI, 116, .inl m_held)), (h_m_text, .inl (cI, 60, .inl m_text)), (h_m_now, .inl (cI, 10, .inl t3.2.2.2.2.1)), (h_m_kept, .inl (cI, 16, .inl t3.2.2.2.2.2))] [] 24 [.int t3.1] := by
    have h := Option.some.inj h
    subst h
    exact G_ireturn hc ⟨rfl, rfl⟩ dX6_back_24
  clear h
  have h := hr5
  clear hr5
  refine G_if_eq (tgt := 22) hc dX6_back_4 (by decide) (fun c10 => ?_) (fun c10 => ?_)
  · have h := ip h c10
    refine G_ldc (v := -1000001) hc k_X6_44 dX6_back_22 ?_
    have h := Option.some.inj h
    subst h
    refine G_lv (lv' := []) lsame_nil ?_
    exact hj4
  · have h := inn h c10
    refine G_aload_n hc dX6_back_7 rfl ?_
    refine G_iload_n hc dX6_back_8 rfl ?_
    refine G_aload_n hc dX6_back_9 rfl ?_
    refine G_iload_n hc dX6_back_10 rfl ?_
    obtain ⟨z6, hu7, h⟩ := ob h
    refine G_callVI (ws2 := [(h_m, .inr (6, [.ref h_m_s, .ref h_m_past, .ref h_m_held, .int m_pasts, .int m_runs0, .ref h_m_text, .int m_typed, .ref h_m_now, .ref h_m_kept, .int m_spot, .int m_reason, .int m_cause, .int m_orders, .int m_kindNow, .int m_placeNow])), (h_m_s, .inl (cI, 116, .inl m_s)), (h_m_past, .inl (cI, 464, .inl m_past)), (h_m_held, .inl (cI, 116, .inl m_held)), (h_m_text, .inl (cI, 60, .inl m_text)), (h_m_now, .inl (cI, 10, .inl z6.2.1)), (h_m_kept, .inl (cI, 16, .inl z6.2.2))]) hc m_X6_94 (c_X6_place l D cI cS X F h_m h_m_s h_m_past h_m_held h_m_text h_m_now h_m_kept m_pasts m_runs0 m_typed m_spot m_reason m_cause m_orders m_kindNow m_placeNow m_s m_past m_held m_text m_now m_kept a1 hu7) 0 [0, 1, 2, 3, 4, 5, 6] rfl rfl (rmok_of (Nat.le_of_ble_eq_true rfl)) ⟨Nat.zero_le _, Nat.zero_le _⟩ rfl rfl rfl rfl rfl ⟨rfl, rfl, rfl⟩ dX6_back_11 ?_
    refine G_iconst (v := 1) hc dX6_back_14 (by decide) ?_
    refine G_isub hc dX6_back_15 ?_
    obtain ⟨z8, hu9, h⟩ := ob h
    refine G_callVI (ws2 := [(h_m, .inr (6, [.ref h_m_s, .ref h_m_past, .ref h_m_held, .int z8.2.1, .int m_runs0, .ref h_m_text, .int m_typed, .ref h_m_now, .ref h_m_kept, .int m_spot, .int m_reason, .int m_cause, .int m_orders, .int m_kindNow, .int m_placeNow])), (h_m_s, .inl (cI, 116, .inl z8.2.2.1)), (h_m_past, .inl (cI, 464, .inl z8.2.2.2.1)), (h_m_held, .inl (cI, 116, .inl m_held)), (h_m_text, .inl (cI, 60, .inl m_text)), (h_m_now, .inl (cI, 10, .inl z8.2.2.2.2.1)), (h_m_kept, .inl (cI, 16, .inl z8.2.2.2.2.2))]) hc m_X6_104 (c_X6_moves l D cI cS X F h_m h_m_s h_m_past h_m_held h_m_text h_m_now h_m_kept m_pasts m_runs0 m_typed m_spot m_reason m_cause m_orders m_kindNow m_placeNow m_s m_past m_held m_text z6.2.1 z6.2.2 a1 (z6.1 - (1 : Int32)) hu9) 0 [0, 1, 2, 3, 4, 5, 6] rfl rfl (rmok_of (Nat.le_of_ble_eq_true rfl)) ⟨Nat.zero_le _, Nat.zero_le _⟩ rfl rfl rfl rfl rfl ⟨rfl, rfl, rfl⟩ dX6_back_16 ?_
    refine G_goto (tgt := 24) hc dX6_back_19 (by decide) ?_
    have h := Option.some.inj h
    subst h
    refine G_lv (lv' := []) lsame_nil ?_
    exact hj4
set_option maxHeartbeats 4000000 in
set_option maxRecDepth 100000 in
theorem c_X6_at (l : Launch) (D : va_G) (cI cS : ClassId) (X : XP) (F : Nat) (h_m h_m_s h_m_past h_m_held h_m_text h_m_now h_m_kept : Nat) (m_pasts : Int32) (m_runs0 : Int32) (m_typed : Int32) (m_spot : Int32) (m_reason : Int32) (m_cause : Int32) (m_orders : Int32) (m_kindNow : Int32) (m_placeNow : Int32) (m_s : Nat → Int32) (m_past : Nat → Int32) (m_held : Nat → Int32) (m_text : Nat → Int32) (m_now : Nat → Int32) (m_kept : Nat → Int32) (a1 : Int32) (a2 : Int32) {res : Int32 × Int32 × (Nat → Int32) × (Nat → Int32) × (Nat → Int32) × (Nat → Int32)} (h : f_X6_at F m_pasts m_runs0 m_s m_past m_now m_kept a1 a2 = some res) : CtI l D cI cS X yX6_at cX6_at 4 (some .int) 5 [.ref h_m, .int a1, .int a2] [(h_m, .inr (6, [.ref h_m_s, .ref h_m_past, .ref h_m_held, .int m_pasts, .int m_runs0, .ref h_m_text, .int m_typed, .ref h_m_now, .ref h_m_kept, .int m_spot, .int m_reason, .int m_cause, .int m_orders, .int m_kindNow, .int m_placeNow])), (h_m_s, .inl (cI, 116, .inl m_s)), (h_m_past, .inl (cI, 464, .inl m_past)), (h_m_held, .inl (cI, 116, .inl m_held)), (h_m_text, .inl (cI, 60, .inl m_text)), (h_m_now, .inl (cI, 10, .inl m_now)), (h_m_kept, .inl (cI, 16, .inl m_kept))] (PoI res.1 [(h_m, .inr (6, [.ref h_m_s, .ref h_m_past, .ref h_m_held, .int res.2.1, .int m_runs0, .ref h_m_text, .int m_typed, .ref h_m_now, .ref h_m_kept, .int m_spot, .int m_reason, .int m_cause, .int m_orders, .int m_kindNow, .int m_placeNow])), (h_m_s, .inl (cI, 116, .inl res.2.2.1)), (h_m_past, .inl (cI, 464, .inl res.2.2.2.1)), (h_m_held, .inl (cI, 116, .inl m_held)), (h_m_text, .inl (cI, 60, .inl m_text)), (h_m_now, .inl (cI, 10, .inl res.2.2.2.2.1)), (h_m_kept, .inl (cI, 16, .inl res.2.2.2.2.2))]) := by
  refine CtI.of (by decide +kernel) rfl ?_
  intro p e s m below meth c A hc
  refine G_lv (lv' := [(0, .ref h_m), (1, .int a1), (2, .int a2)]) (lsame_cons rfl (lsame_cons rfl (lsame_cons rfl lsame_nil))) ?_
  unfold f_X6_at at h
  refine G_iload_n hc dX6_at_0 rfl ?_
  obtain ⟨z1, hu2, h⟩ := ob h
  refine G_callSI (ws2 := [(h_m, .inr (6, [.ref h_m_s, .ref h_m_past, .ref h_m_held, .int m_pasts, .int m_runs0, .ref h_m_text, .int m_typed, .ref h_m_now, .ref h_m_kept, .int m_spot, .int m_reason, .int m_cause, .int m_orders, .int m_kindNow, .int m_placeNow])), (h_m_s, .inl (cI, 116, .inl m_s)), (h_m_past, .inl (cI, 464, .inl m_past)), (h_m_held, .inl (cI, 116, .inl m_held)), (h_m_text, .inl (cI, 60, .inl m_text)), (h_m_now, .inl (cI, 10, .inl m_now)), (h_m_kept, .inl (cI, 16, .inl m_kept))]) hc m_X6_40 (c_X6_is4 l D cI cS X F a1 hu2) [] (rmok_of (Nat.le_of_ble_eq_true rfl)) ⟨Nat.zero_le _, Nat.zero_le _⟩ rfl rfl rfl rfl rfl ⟨rfl, rfl, rfl⟩ dX6_at_1 ?_
  refine G_if_eq (tgt := 11) hc dX6_at_4 (by decide) (fun c15 => ?_) (fun c15 => ?_)
  · have h := ip h c15
    refine G_ldc (v := -1000001) hc k_X6_44 dX6_at_11 ?_
    have h := Option.some.inj h
    subst h
    exact G_ireturn hc ⟨rfl, rfl⟩ dX6_at_13
  · have h := inn h c15
    refine G_iload_n hc dX6_at_7 rfl ?_
    refine G_if_ge (tgt := 14) hc dX6_at_8 (by decide) (fun c14 => ?_) (fun c14 => ?_)
    · have h := ip h c14
      refine G_aload_n hc dX6_at_14 rfl ?_
      refine G_iload_n hc dX6_at_15 rfl ?_
      refine G_iload_n hc dX6_at_16 rfl ?_
      obtain ⟨z3, hu4, h⟩ := ob h
      refine G_callVI (ws2 := [(h_m, .inr (6, [.ref h_m_s, .ref h_m_past, .ref h_m_held, .int m_pasts, .int m_runs0, .ref h_m_text, .int m_typed, .ref h_m_now, .ref h_m_kept, .int m_spot, .int m_reason, .int m_cause, .int m_orders, .int m_kindNow, .int m_placeNow])), (h_m_s, .inl (cI, 116, .inl m_s)), (h_m_past, .inl (cI, 464, .inl m_past)), (h_m_held, .inl (cI, 116, .inl m_held)), (h_m_text, .inl (cI, 60, .inl m_text)), (h_m_now, .inl (cI, 10, .inl z3.2.1)), (h_m_kept, .inl (cI, 16, .inl z3.2.2))]) hc m_X6_97 (c_X6_finds l D cI cS X F h_m h_m_s h_m_past h_m_held h_m_text h_m_now h_m_kept m_pasts m_runs0 m_typed m_spot m_reason m_cause m_orders m_kindNow m_placeNow m_s m_past m_held m_text m_now m_kept a1 a2 hu4) 0 [0, 1, 2, 3, 4, 5, 6] rfl rfl (rmok_of (Nat.le_of_ble_eq_true rfl)) ⟨Nat.zero_le _, Nat.zero_le _⟩ rfl rfl rfl rfl rfl ⟨rfl, rfl, rfl⟩ dX6_at_17 ?_
      refine G_if_ne (tgt := 26) hc dX6_at_20 (by decide) (fun c13 => ?_) (fun c13 => ?_)
      · have h := inn h c13
        refine G_aload_n hc dX6_at_26 rfl ?_
        obtain ⟨z5, hu6, h⟩ := ob h
        refine G_callVV (ws2 := [(h_m, .inr (6, [.ref h_m_s, .ref h_m_past, .ref h_m_held, .int z5.1, .int m_runs0, .ref h_m_text, .int m_typed, .ref h_m_now, .ref h_m_kept, .int m_spot, .int m_reason, .int m_cause, .int m_orders, .int m_kindNow, .int m_placeNow])), (h_m_s, .inl (cI, 116, .inl m_s)), (h_m_past, .inl (cI, 464, .inl z5.2)), (h_m_held, .inl (cI, 116, .inl m_held)), (h_m_text, .inl (cI, 60, .inl m_text)), (h_m_now, .inl (cI, 10, .inl z3.2.1)), (h_m_kept, .inl (cI, 16, .inl z3.2.2))]) hc m_X6_46 (c_X6_changes l D cI cS X F h_m h_m_s h_m_past h_m_held h_m_text h_m_now h_m_kept m_pasts m_runs0 m_typed m_spot m_reason m_cause m_orders m_kindNow m_placeNow m_s m_past m_held m_text z3.2.1 z3.2.2 hu6) 0 [0, 1, 2, 3, 4, 5, 6] rfl rfl (rmok_of (Nat.le_of_ble_eq_true rfl)) ⟨Nat.zero_le _, Nat.zero_le _⟩ rfl rfl rfl rfl rfl ⟨rfl, rfl, rfl⟩ dX6_at_27 ?_
        refine G_aload_n hc dX6_at_30 rfl ?_
        refine G_get hc f_X6_7 0 rfl rfl dX6_at_31 ?_
        refine G_iconst (v := 0) hc dX6_at_34 (by decide) ?_
        obtain ⟨v7, i_v7, e_v7, h⟩ := rb h
        refine G_iald hc 1 rfl i_v7 e_v7 dX6_at_35 ?_
        refine G_aload_n hc dX6_at_36 rfl ?_
        obtain ⟨z8, hu9, h⟩ := ob h
        refine G_callVI (ws2 := [(h_m, .inr (6, [.ref h_m_s, .ref h_m_past, .ref h_m_held, .int z5.1, .int m_runs0, .ref h_m_text, .int m_typed, .ref h_m_now, .ref h_m_kept, .int m_spot, .int m_reason, .int m_cause, .int m_orders, .int m_kindNow, .int m_placeNow])), (h_m_s, .inl (cI, 116, .inl m_s)), (h_m_past, .inl (cI, 464, .inl z5.2)), (h_m_held, .inl (cI, 116, .inl m_held)), (h_m_text, .inl (cI, 60, .inl m_text)), (h_m_now, .inl (cI, 10, .inl z3.2.1)), (h_m_kept, .inl (cI, 16, .inl z3.2.2))]) hc m_X6_90 (c_X6_same l D cI cS X F h_m h_m_s h_m_past h_m_held h_m_text h_m_now h_m_kept z5.1 m_runs0 m_typed m_spot m_reason m_cause m_orders m_kindNow m_placeNow m_s z5.2 m_held m_text z3.2.1 z3.2.2 hu9) 0 [0, 1, 2, 3, 4, 5, 6] rfl rfl (rmok_of (Nat.le_of_ble_eq_true rfl)) ⟨Nat.zero_le _, Nat.zero_le _⟩ rfl rfl rfl rfl rfl ⟨rfl, rfl, rfl⟩ dX6_at_37 ?_
        refine G_isub hc dX6_at_40 ?_
        obtain ⟨v10, e_v10, h⟩ := sb h
        refine G_top e_v10 ?_
        refine G_istore_n (lv' := [(0, .ref h_m), (1, .int a1), (2, .int a2), (3, .int v10)]) hc dX6_at_41 rfl rfl ?_
        refine G_aload_n hc dX6_at_42 rfl ?_
        obtain ⟨z11, hu12, h⟩ := ob h
        refine G_callVV (ws2 := [(h_m, .inr (6, [.ref h_m_s, .ref h_m_past, .ref h_m_held, .int z5.1, .int m_runs0, .ref h_m_text, .int m_typed, .ref h_m_now, .ref h_m_kept, .int m_spot, .int m_reason, .int m_cause, .int m_orders, .int m_kindNow, .int m_placeNow])), (h_m_s, .inl (cI, 116, .inl z11)), (h_m_past, .inl (cI, 464, .inl z5.2)), (h_m_held, .inl (cI, 116, .inl m_held)), (h_m_text, .inl (cI, 60, .inl m_text)), (h_m_now, .inl (cI, 10, .inl z3.2.1)), (h_m_kept, .inl (cI, 16, .inl z3.2.2))]) hc m_X6_101 (c_X6_takes l D cI cS X F h_m h_m_s h_m_past h_m_held h_m_text h_m_now h_m_kept z5.1 m_runs0 m_typed m_spot m_reason m_cause m_orders m_kindNow m_placeNow m_s z5.2 m_held m_text z3.2.1 z3.2.2 hu12) 0 [0, 1, 2, 3, 4, 5, 6] rfl rfl (rmok_of (Nat.le_of_ble_eq_true rfl)) ⟨Nat.zero_le _, Nat.zero_le _⟩ rfl rfl rfl rfl rfl ⟨rfl, rfl, rfl⟩ dX6_at_43 ?_
        refine G_iload_n hc dX6_at_46 rfl ?_
        have h := Option.some.inj h
        subst h
        exact G_ireturn hc ⟨rfl, rfl⟩ dX6_at_47
      · have h := ip h c13
        refine G_ldc (v := -1000002) hc k_X6_49 dX6_at_23 ?_
        have h := Option.some.inj h
        subst h
        exact G_ireturn hc ⟨rfl, rfl⟩ dX6_at_25
    · have h := inn h c14
      refine G_ldc (v := -1000001) hc k_X6_44 dX6_at_11 ?_
      have h := Option.some.inj h
      subst h
      exact G_ireturn hc ⟨rfl, rfl⟩ dX6_at_13
set_option maxHeartbeats 4000000 in
set_option maxRecDepth 100000 in
theorem c_X6_runsOf_m_s (l : Launch) (D : va_G) (cI cS : ClassId) (X : XP) (F : Nat) (h_m h_m_s h_m_past h_m_held h_m_text h_m_now h_m_kept : Nat) (m_pasts : Int32) (m_runs0 : Int32) (m_typed : Int32) (m_spot : Int32) (m_reason : Int32) (m_cause : Int32) (m_orders : Int32) (m_kindNow : Int32) (m_placeNow : Int32) (m_s : Nat → Int32) (m_past : Nat → Int32) (m_held : Nat → Int32) (m_text : Nat → Int32) (m_now : Nat → Int32) (m_kept : Nat → Int32) (a2 : Int32) {res : Int32} (h : f_X6_runsOf_m_s F m_s a2 = some res) : CtI l D cI cS X yX6_runsOf cX6_runsOf 5 (some .int) 1 [.ref h_m, .ref h_m_s, .int a2] [(h_m, .inr (6, [.ref h_m_s, .ref h_m_past, .ref h_m_held, .int m_pasts, .int m_runs0, .ref h_m_text, .int m_typed, .ref h_m_now, .ref h_m_kept, .int m_spot, .int m_reason, .int m_cause, .int m_orders, .int m_kindNow, .int m_placeNow])), (h_m_s, .inl (cI, 116, .inl m_s)), (h_m_past, .inl (cI, 464, .inl m_past)), (h_m_held, .inl (cI, 116, .inl m_held)), (h_m_text, .inl (cI, 60, .inl m_text)), (h_m_now, .inl (cI, 10, .inl m_now)), (h_m_kept, .inl (cI, 16, .inl m_kept))] (PoI res [(h_m, .inr (6, [.ref h_m_s, .ref h_m_past, .ref h_m_held, .int m_pasts, .int m_runs0, .ref h_m_text, .int m_typed, .ref h_m_now, .ref h_m_kept, .int m_spot, .int m_reason, .int m_cause, .int m_orders, .int m_kindNow, .int m_placeNow])), (h_m_s, .inl (cI, 116, .inl m_s)), (h_m_past, .inl (cI, 464, .inl m_past)), (h_m_held, .inl (cI, 116, .inl m_held)), (h_m_text, .inl (cI, 60, .inl m_text)), (h_m_now, .inl (cI, 10, .inl m_now)), (h_m_kept, .inl (cI, 16, .inl m_kept))]) := by
  refine CtI.of (by decide +kernel) rfl ?_
  intro p e s m below meth c A hc
  refine G_lv (lv' := [(0, .ref h_m), (1, .ref h_m_s), (2, .int a2)]) (lsame_cons rfl (lsame_cons rfl (lsame_cons rfl lsame_nil))) ?_
  unfold f_X6_runsOf_m_s at h
  refine G_aload_n hc dX6_runsOf_0 rfl ?_
  refine G_get hc f_X6_7 0 rfl rfl dX6_runsOf_1 ?_
  refine G_iconst (v := 0) hc dX6_runsOf_4 (by decide) ?_
  obtain ⟨v1, i_v1, e_v1, h⟩ := rb h
  refine G_iald hc 1 rfl i_v1 e_v1 dX6_runsOf_5 ?_
  obtain ⟨t2, hr4, h⟩ := ob h
  have hj3 : G p l e (rmk 1) s m [.ref h_m, .ref h_m_s, .int a2].toArray below meth c D A 5 0 0 (QI below [.ref h_m, .ref h_m_s, .int a2].toArray s D A (PoI res [(h_m, .inr (6, [.ref h_m_s, .ref h_m_past, .ref h_m_held, .int m_pasts, .int m_runs0, .ref h_m_text, .int m_typed, .ref h_m_now, .ref h_m_kept, .int m_spot, .int m_reason, .int m_cause, .int m_orders, .int m_kindNow, .int m_placeNow])), (h_m_s, .inl (cI, 116, .inl m_s)), (h_m_past, .inl (cI, 464, .inl m_past)), (h_m_held, .inl (cI, 116, .inl m_held)), (h_m_text, .inl (cI, 60, .inl m_text)), (h_m_now, .inl (cI, 10, .inl m_now)), (h_m_kept, .inl (cI, 16, .inl m_kept))])) [(h_m, .inr (6, [.ref h_m_s, .ref h_m_past, .ref h_m_held, .int m_pasts, .int m_runs0, .ref h_m_text, .int m_typed, .ref h_m_now, .ref h_m_kept, .int m_spot, .int m_reason, .int m_cause, .int m_orders, .int m_kindNow, .int m_placeNow])), (h_m_s, .inl (cI, 116, .inl m_s)), (h_m_past, .inl (cI, 464, .inl m_past)), (h_m_held, .inl (cI, 116, .inl m_held)), (h_m_text, .inl (cI, 60, .inl m_text)), (h_m_now, .inl (cI, 10, .inl m_now)), (h_m_kept, .inl (cI, 16, .inl m_kept))] [(0, .ref h_m), (1, .ref h_m_s), (2, .int a2)] 14 [.int t2] := by
    refine G_istore_n (lv' := [(0, .ref h_m), (1, .ref h_m_s), (2, .int a2), (3, .int t2)]) hc dX6_runsOf_14 rfl rfl ?_
    refine G_iconst (v := 1) hc dX6_runsOf_15 (by decide) ?_
    refine G_istore (lv' := [(0, .ref h_m), (1, .ref h_m_s), (2, .int a2), (3, .int t2), (4, .int (1 : Int32))]) hc dX6_runsOf_16 rfl rfl ?_
    obtain ⟨e8, hl9, h⟩ := ob h
    have hK13 : G p l e (rmk 1) s m [.ref h_m, .ref h_m_s, .int a2].toArray below meth c D A 5 0 0 (QI below [.ref h_m, .ref h_m_s, .int a2].toArray s D A (PoI res [(h_m, .inr (6, [.ref h_m_s, .ref h_m_past, .ref h_m_held, .int m_pasts, .int m_runs0, .ref h_m_text, .int m_typed, .ref h_m_now, .ref h_m_kept, .int m_spot, .int m_reason, .int m_cause, .int m_orders, .int m_kindNow, .int m_placeNow])), (h_m_s, .inl (cI, 116, .inl m_s)), (h_m_past, .inl (cI, 464, .inl m_past)), (h_m_held, .inl (cI, 116, .inl m_held)), (h_m_text, .inl (cI, 60, .inl m_text)), (h_m_now, .inl (cI, 10, .inl m_now)), (h_m_kept, .inl (cI, 16, .inl m_kept))])) [(h_m, .inr (6, [.ref h_m_s, .ref h_m_past, .ref h_m_held, .int m_pasts, .int m_runs0, .ref h_m_text, .int m_typed, .ref h_m_now, .ref h_m_kept, .int m_spot, .int m_reason, .int m_cause, .int m_orders, .int m_kindNow, .int m_placeNow])), (h_m_s, .inl (cI, 116, .inl m_s)), (h_m_past, .inl (cI, 464, .inl m_past)), (h_m_held, .inl (cI, 116, .inl m_held)), (h_m_text, .inl (cI, 60, .inl m_text)), (h_m_now, .inl (cI, 10, .inl m_now)), (h_m_kept, .inl (cI, 16, .inl m_kept))] [(3, .int e8)] 60 [] := by
      refine G_iload_n hc dX6_runsOf_60 rfl ?_
      have h := Option.some.inj h
      subst h
      exact G_ireturn hc ⟨rfl, rfl⟩ dX6_runsOf_61
    clear h
    have hL10 : ∀ (n11 : Nat) (u6 : Int32) (u7 : Int32), f_X6_runsOf_m_s_L18 F m_s a2 n11 u6 u7 = some e8 → G p l e (rmk 1) s m [.ref h_m, .ref h_m_s, .int a2].toArray below meth c D A 5 0 0 (QI below [.ref h_m, .ref h_m_s, .int a2].toArray s D A (PoI res [(h_m, .inr (6, [.ref h_m_s, .ref h_m_past, .ref h_m_held, .int m_pasts, .int m_runs0, .ref h_m_text, .int m_typed, .ref h_m_now, .ref h_m_kept, .int m_spot, .int m_reason, .int m_cause, .int m_orders, .int m_kindNow, .int m_placeNow])), (h_m_s, .inl (cI, 116, .inl m_s)), (h_m_past, .inl (cI, 464, .inl m_past)), (h_m_held, .inl (cI, 116, .inl m_held)), (h_m_text, .inl (cI, 60, .inl m_text)), (h_m_now, .inl (cI, 10, .inl m_now)), (h_m_kept, .inl (cI, 16, .inl m_kept))])) [(h_m, .inr (6, [.ref h_m_s, .ref h_m_past, .ref h_m_held, .int m_pasts, .int m_runs0, .ref h_m_text, .int m_typed, .ref h_m_now, .ref h_m_kept, .int m_spot, .int m_reason, .int m_cause, .int m_orders, .int m_kindNow, .int m_placeNow])), (h_m_s, .inl (cI, 116, .inl m_s)), (h_m_past, .inl (cI, 464, .inl m_past)), (h_m_held, .inl (cI, 116, .inl m_held)), (h_m_text, .inl (cI, 60, .inl m_text)), (h_m_now, .inl (cI, 10, .inl m_now)), (h_m_kept, .inl (cI, 16, .inl m_kept))] [(0, .ref h_m), (1, .ref h_m_s), (2, .int a2), (3, .int u6), (4, .int u7)] 18 [] := by
      intro n11
      induction n11 with
      | zero =>
        intro u6 u7 h
        exact nz h
      | succ n11 ih12 =>
        intro u6 u7 h
        rw [f_X6_runsOf_m_s_L18] at h
        refine G_iload hc dX6_runsOf_18 rfl ?_
        refine G_aload_n hc dX6_runsOf_20 rfl ?_
        refine G_get hc f_X6_7 0 rfl rfl dX6_runsOf_21 ?_
        refine G_iconst (v := 0) hc dX6_runsOf_24 (by decide) ?_
        obtain ⟨v14, i_v14, e_v14, h⟩ := rb h
        refine G_iald hc 1 rfl i_v14 e_v14 dX6_runsOf_25 ?_
        refine G_icmp_ge (tgt := 60) hc dX6_runsOf_26 (by decide) (fun c23 => ?_) (fun c23 => ?_)
        · have h := ip h c23
          have h := Option.some.inj h
          subst h
          refine G_lv (lv' := [(3, .int u6)]) (lsame_cons rfl lsame_nil) ?_
          exact hK13
        · have h := inn h c23
          refine G_iload_n hc dX6_runsOf_29 rfl ?_
          refine G_aload_n hc dX6_runsOf_30 rfl ?_
          refine G_iload_n hc dX6_runsOf_31 rfl ?_
          refine G_iload hc dX6_runsOf_32 rfl ?_
          refine G_iadd hc dX6_runsOf_34 ?_
          obtain ⟨v15, i_v15, e_v15, h⟩ := rb h
          refine G_iald hc 1 rfl i_v15 e_v15 dX6_runsOf_35 ?_
          refine G_aload_n hc dX6_runsOf_36 rfl ?_
          refine G_iload_n hc dX6_runsOf_37 rfl ?_
          refine G_iload hc dX6_runsOf_38 rfl ?_
          refine G_iadd hc dX6_runsOf_40 ?_
          refine G_iconst (v := 1) hc dX6_runsOf_41 (by decide) ?_
          refine G_isub hc dX6_runsOf_42 ?_
          obtain ⟨v16, i_v16, e_v16, h⟩ := rb h
          refine G_iald hc 1 rfl i_v16 e_v16 dX6_runsOf_43 ?_
          obtain ⟨t17, hr19, h⟩ := ob h
          have hj18 : G p l e (rmk 1) s m [.ref h_m, .ref h_m_s, .int a2].toArray below meth c D A 5 0 0 (QI below [.ref h_m, .ref h_m_s, .int a2].toArray s D A (PoI res [(h_m, .inr (6, [.ref h_m_s, .ref h_m_past, .ref h_m_held, .int m_pasts, .int m_runs0, .ref h_m_text, .int m_typed, .ref h_m_now, .ref h_m_kept, .int m_spot, .int m_reason, .int m_cause, .int m_orders, .int m_kindNow, .int m_placeNow])), (h_m_s, .inl (cI, 116, .inl m_s)), (h_m_past, .inl (cI, 464, .inl m_past)), (h_m_held, .inl (cI, 116, .inl m_held)), (h_m_text, .inl (cI, 60, .inl m_text)), (h_m_now, .inl (cI, 10, .inl m_now)), (h_m_kept, .inl (cI, 16, .inl m_kept))])) [(h_m, .inr (6, [.ref h_m_s, .ref h_m_past, .ref h_m_held, .int m_pasts, .int m_runs0, .ref h_m_text, .int m_typed, .ref h_m_now, .ref h_m_kept, .int m_spot, .int m_reason, .int m_cause, .int m_orders, .int m_kindNow, .int m_placeNow])), (h_m_s, .inl (cI, 116, .inl m_s)), (h_m_past, .inl (cI, 464, .inl m_past)), (h_m_held, .inl (cI, 116, .inl m_held)), (h_m_text, .inl (cI, 60, .inl m_text)), (h_m_now, .inl (cI, 10, .inl m_now)), (h_m_kept, .inl (cI, 16, .inl m_kept))] [(0, .ref h_m), (1, .ref h_m_s), (2, .int a2), (4, .int u7)] 52 [.int t17, .int u6] := by
            refine G_iadd hc dX6_runsOf_52 ?_
            obtain ⟨v21, e_v21, h⟩ := sb h
            refine G_top e_v21 ?_
            refine G_istore_n (lv' := [(0, .ref h_m), (1, .ref h_m_s), (2, .int a2), (4, .int u7), (3, .int v21)]) hc dX6_runsOf_53 rfl rfl ?_
            obtain ⟨v22, e_v22, h⟩ := sb h
            refine G_iinc (v := v22) (lv' := [(0, .ref h_m), (1, .ref h_m_s), (2, .int a2), (4, .int v22), (3, .int v21)]) hc dX6_runsOf_54 rfl (e_v22.trans rfl) rfl rfl ?_
            refine G_goto (tgt := 18) hc dX6_runsOf_57 (by decide) ?_
            refine G_lv (lv' := [(0, .ref h_m), (1, .ref h_m_s), (2, .int a2), (3, .int v21), (4, .int v22)]) (lsame_cons rfl (lsame_cons rfl (lsame_cons rfl (lsame_cons rfl (lsame_cons rfl lsame_nil))))) ?_
            exact ih12 _ _ h
          clear h
          have h := hr19
          clear hr19
          refine G_icmp_ne (tgt := 51) hc dX6_runsOf_44 (by decide) (fun c20 => ?_) (fun c20 => ?_)
          · have h := inn h c20
            refine G_iconst (v := 1) hc dX6_runsOf_51 (by decide) ?_
            have h := Option.some.inj h
            subst h
            refine G_lv (lv' := [(0, .ref h_m), (1, .ref h_m_s), (2, .int a2), (4, .int u7)]) (lsame_cons rfl (lsame_cons rfl (lsame_cons rfl (lsame_cons rfl lsame_nil)))) ?_
            exact hj18
          · have h := ip h c20
            refine G_iconst (v := 0) hc dX6_runsOf_47 (by decide) ?_
            refine G_goto (tgt := 52) hc dX6_runsOf_48 (by decide) ?_
            have h := Option.some.inj h
            subst h
            refine G_lv (lv' := [(0, .ref h_m), (1, .ref h_m_s), (2, .int a2), (4, .int u7)]) (lsame_cons rfl (lsame_cons rfl (lsame_cons rfl (lsame_cons rfl lsame_nil)))) ?_
            exact hj18
    refine G_lv (lv' := [(0, .ref h_m), (1, .ref h_m_s), (2, .int a2), (3, .int t2), (4, .int (1 : Int32))]) (lsame_cons rfl (lsame_cons rfl (lsame_cons rfl (lsame_cons rfl (lsame_cons rfl lsame_nil))))) ?_
    exact hL10 F _ _ hl9
  clear h
  have h := hr4
  clear hr4
  refine G_if_ne (tgt := 13) hc dX6_runsOf_6 (by decide) (fun c5 => ?_) (fun c5 => ?_)
  · have h := inn h c5
    refine G_iconst (v := 1) hc dX6_runsOf_13 (by decide) ?_
    have h := Option.some.inj h
    subst h
    refine G_lv (lv' := [(0, .ref h_m), (1, .ref h_m_s), (2, .int a2)]) (lsame_cons rfl (lsame_cons rfl (lsame_cons rfl lsame_nil))) ?_
    exact hj3
  · have h := ip h c5
    refine G_iconst (v := 0) hc dX6_runsOf_9 (by decide) ?_
    refine G_goto (tgt := 14) hc dX6_runsOf_10 (by decide) ?_
    have h := Option.some.inj h
    subst h
    refine G_lv (lv' := [(0, .ref h_m), (1, .ref h_m_s), (2, .int a2)]) (lsame_cons rfl (lsame_cons rfl (lsame_cons rfl lsame_nil))) ?_
    exact hj3
