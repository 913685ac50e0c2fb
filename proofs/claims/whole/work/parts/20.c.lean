set_option maxHeartbeats 4000000 in
set_option maxRecDepth 100000 in
theorem c_X6_pairAt (l : Launch) (D : va_G) (cI cS : ClassId) (X : XP) (F : Nat) (h_m h_m_s h_m_past h_m_held h_m_text h_m_now h_m_kept : Nat) (m_pasts : Int32) (m_runs0 : Int32) (m_typed : Int32) (m_spot : Int32) (m_reason : Int32) (m_cause : Int32) (m_orders : Int32) (m_kindNow : Int32) (m_placeNow : Int32) (m_s : Nat → Int32) (m_past : Nat → Int32) (m_held : Nat → Int32) (m_text : Nat → Int32) (m_now : Nat → Int32) (m_kept : Nat → Int32) (a1 : Int32) (a2 : Int32) {res : Int32} (h : f_X6_pairAt F m_s a1 a2 = some res) : CtI l D cI cS X yX6_pairAt cX6_pairAt 7 (some .int) 3 [.ref h_m, .int a1, .int a2] [(h_m, .inr (6, [.ref h_m_s, .ref h_m_past, .ref h_m_held, .int m_pasts, .int m_runs0, .ref h_m_text, .int m_typed, .ref h_m_now, .ref h_m_kept, .int m_spot, .int m_reason, .int m_cause, .int m_orders, .int m_kindNow, .int m_placeNow])), (h_m_s, .inl (cI, 116, .inl m_s)), (h_m_past, .inl (cI, 464, .inl m_past)), (h_m_held, .inl (cI, 116, .inl m_held)), (h_m_text, .inl (cI, 60, .inl m_text)), (h_m_now, .inl (cI, 10, .inl m_now)), (h_m_kept, .inl (cI, 16, .inl m_kept))] (PoI res [(h_m, .inr (6, [.ref h_m_s, .ref h_m_past, .ref h_m_held, .int m_pasts, .int m_runs0, .ref h_m_text, .int m_typed, .ref h_m_now, .ref h_m_kept, .int m_spot, .int m_reason, .int m_cause, .int m_orders, .int m_kindNow, .int m_placeNow])), (h_m_s, .inl (cI, 116, .inl m_s)), (h_m_past, .inl (cI, 464, .inl m_past)), (h_m_held, .inl (cI, 116, .inl m_held)), (h_m_text, .inl (cI, 60, .inl m_text)), (h_m_now, .inl (cI, 10, .inl m_now)), (h_m_kept, .inl (cI, 16, .inl m_kept))]) := by
  refine CtI.of (by decide +kernel) rfl ?_
  intro p e s m below meth c A hc
  refine G_lv (lv' := [(0, .ref h_m), (1, .int a1), (2, .int a2)]) (lsame_cons rfl (lsame_cons rfl (lsame_cons rfl lsame_nil))) ?_
  unfold f_X6_pairAt at h
  refine G_iload_n hc dX6_pairAt_0 rfl ?_
  refine G_iconst (v := 0) hc dX6_pairAt_1 (by decide) ?_
  refine G_bipush (v := 15) hc dX6_pairAt_2 (by decide) ?_
  obtain ⟨z1, hu2, h⟩ := ob h
  refine G_callSI (ws2 := [(h_m, .inr (6, [.ref h_m_s, .ref h_m_past, .ref h_m_held, .int m_pasts, .int m_runs0, .ref h_m_text, .int m_typed, .ref h_m_now, .ref h_m_kept, .int m_spot, .int m_reason, .int m_cause, .int m_orders, .int m_kindNow, .int m_placeNow])), (h_m_s, .inl (cI, 116, .inl m_s)), (h_m_past, .inl (cI, 464, .inl m_past)), (h_m_held, .inl (cI, 116, .inl m_held)), (h_m_text, .inl (cI, 60, .inl m_text)), (h_m_now, .inl (cI, 10, .inl m_now)), (h_m_kept, .inl (cI, 16, .inl m_kept))]) hc m_X6_28 (c_X6_in l D cI cS X F a1 (0 : Int32) (15 : Int32) hu2) [] (rmok_of (Nat.le_of_ble_eq_true rfl)) ⟨Nat.zero_le _, Nat.zero_le _⟩ rfl rfl rfl rfl rfl ⟨rfl, rfl, rfl⟩ dX6_pairAt_4 ?_
  refine G_if_eq (tgt := 19) hc dX6_pairAt_7 (by decide) (fun c51 => ?_) (fun c51 => ?_)
  · have h := ip h c51
    refine G_ldc (v := -1000001) hc k_X6_44 dX6_pairAt_19 ?_
    have h := Option.some.inj h
    subst h
    exact G_ireturn hc ⟨rfl, rfl⟩ dX6_pairAt_21
  · have h := inn h c51
    refine G_iload_n hc dX6_pairAt_10 rfl ?_
    refine G_iconst (v := 0) hc dX6_pairAt_11 (by decide) ?_
    refine G_iconst (v := 1) hc dX6_pairAt_12 (by decide) ?_
    obtain ⟨z3, hu4, h⟩ := ob h
    refine G_callSI (ws2 := [(h_m, .inr (6, [.ref h_m_s, .ref h_m_past, .ref h_m_held, .int m_pasts, .int m_runs0, .ref h_m_text, .int m_typed, .ref h_m_now, .ref h_m_kept, .int m_spot, .int m_reason, .int m_cause, .int m_orders, .int m_kindNow, .int m_placeNow])), (h_m_s, .inl (cI, 116, .inl m_s)), (h_m_past, .inl (cI, 464, .inl m_past)), (h_m_held, .inl (cI, 116, .inl m_held)), (h_m_text, .inl (cI, 60, .inl m_text)), (h_m_now, .inl (cI, 10, .inl m_now)), (h_m_kept, .inl (cI, 16, .inl m_kept))]) hc m_X6_28 (c_X6_in l D cI cS X F a2 (0 : Int32) (1 : Int32) hu4) [] (rmok_of (Nat.le_of_ble_eq_true rfl)) ⟨Nat.zero_le _, Nat.zero_le _⟩ rfl rfl rfl rfl rfl ⟨rfl, rfl, rfl⟩ dX6_pairAt_13 ?_
    refine G_if_ne (tgt := 22) hc dX6_pairAt_16 (by decide) (fun c50 => ?_) (fun c50 => ?_)
    · have h := inn h c50
      refine G_iconst (v := 0) hc dX6_pairAt_22 (by decide) ?_
      refine G_istore_n (lv' := [(0, .ref h_m), (1, .int a1), (2, .int a2), (3, .int (0 : Int32))]) hc dX6_pairAt_23 rfl rfl ?_
      refine G_iconst (v := 0) hc dX6_pairAt_24 (by decide) ?_
      refine G_istore (lv' := [(0, .ref h_m), (1, .int a1), (2, .int a2), (3, .int (0 : Int32)), (4, .int (0 : Int32))]) hc dX6_pairAt_25 rfl rfl ?_
      obtain ⟨e7, hl8, h⟩ := ob h
      have hK12 : G p l e (rmk 3) s m [.ref h_m, .int a1, .int a2].toArray below meth c D A 7 0 0 (QI below [.ref h_m, .int a1, .int a2].toArray s D A (PoI res [(h_m, .inr (6, [.ref h_m_s, .ref h_m_past, .ref h_m_held, .int m_pasts, .int m_runs0, .ref h_m_text, .int m_typed, .ref h_m_now, .ref h_m_kept, .int m_spot, .int m_reason, .int m_cause, .int m_orders, .int m_kindNow, .int m_placeNow])), (h_m_s, .inl (cI, 116, .inl m_s)), (h_m_past, .inl (cI, 464, .inl m_past)), (h_m_held, .inl (cI, 116, .inl m_held)), (h_m_text, .inl (cI, 60, .inl m_text)), (h_m_now, .inl (cI, 10, .inl m_now)), (h_m_kept, .inl (cI, 16, .inl m_kept))])) [(h_m, .inr (6, [.ref h_m_s, .ref h_m_past, .ref h_m_held, .int m_pasts, .int m_runs0, .ref h_m_text, .int m_typed, .ref h_m_now, .ref h_m_kept, .int m_spot, .int m_reason, .int m_cause, .int m_orders, .int m_kindNow, .int m_placeNow])), (h_m_s, .inl (cI, 116, .inl m_s)), (h_m_past, .inl (cI, 464, .inl m_past)), (h_m_held, .inl (cI, 116, .inl m_held)), (h_m_text, .inl (cI, 60, .inl m_text)), (h_m_now, .inl (cI, 10, .inl m_now)), (h_m_kept, .inl (cI, 16, .inl m_kept))] [(0, .ref h_m), (2, .int a2), (3, .int e7)] 119 [] := by
        refine G_iload_n hc dX6_pairAt_119 rfl ?_
        obtain ⟨t44, hr46, h⟩ := ob h
        have hj45 : G p l e (rmk 3) s m [.ref h_m, .int a1, .int a2].toArray below meth c D A 7 0 0 (QI below [.ref h_m, .int a1, .int a2].toArray s D A (PoI res [(h_m, .inr (6, [.ref h_m_s, .ref h_m_past, .ref h_m_held, .int m_pasts, .int m_runs0, .ref h_m_text, .int m_typed, .ref h_m_now, .ref h_m_kept, .int m_spot, .int m_reason, .int m_cause, .int m_orders, .int m_kindNow, .int m_placeNow])), (h_m_s, .inl (cI, 116, .inl m_s)), (h_m_past, .inl (cI, 464, .inl m_past)), (h_m_held, .inl (cI, 116, .inl m_held)), (h_m_text, .inl (cI, 60, .inl m_text)), (h_m_now, .inl (cI, 10, .inl m_now)), (h_m_kept, .inl (cI, 16, .inl m_kept))])) [(h_m, .inr (6, [.ref h_m_s, .ref h_m_past, .ref h_m_held, .int m_pasts, .int m_runs0, .ref h_m_text, .int m_typed, .ref h_m_now, .ref h_m_kept, .int m_spot, .int m_reason, .int m_cause, .int m_orders, .int m_kindNow, .int m_placeNow])), (h_m_s, .inl (cI, 116, .inl m_s)), (h_m_past, .inl (cI, 464, .inl m_past)), (h_m_held, .inl (cI, 116, .inl m_held)), (h_m_text, .inl (cI, 60, .inl m_text)), (h_m_now, .inl (cI, 10, .inl m_now)), (h_m_kept, .inl (cI, 16, .inl m_kept))] [] 132 [.int t44] := by
          have h := Option.some.inj h
          subst h
          exact G_ireturn hc ⟨rfl, rfl⟩ dX6_pairAt_132
        clear h
        have h := hr46
        clear hr46
        refine G_if_ne (tgt := 127) hc dX6_pairAt_120 (by decide) (fun c49 => ?_) (fun c49 => ?_)
        · have h := inn h c49
          refine G_aload_n hc dX6_pairAt_127 rfl ?_
          refine G_iload_n hc dX6_pairAt_128 rfl ?_
          obtain ⟨z47, hu48, h⟩ := ob h
          refine G_callVI (ws2 := [(h_m, .inr (6, [.ref h_m_s, .ref h_m_past, .ref h_m_held, .int m_pasts, .int m_runs0, .ref h_m_text, .int m_typed, .ref h_m_now, .ref h_m_kept, .int m_spot, .int m_reason, .int m_cause, .int m_orders, .int m_kindNow, .int m_placeNow])), (h_m_s, .inl (cI, 116, .inl m_s)), (h_m_past, .inl (cI, 464, .inl m_past)), (h_m_held, .inl (cI, 116, .inl m_held)), (h_m_text, .inl (cI, 60, .inl m_text)), (h_m_now, .inl (cI, 10, .inl m_now)), (h_m_kept, .inl (cI, 16, .inl m_kept))]) hc m_X6_55 (c_X6_pairs l D cI cS X F h_m h_m_s h_m_past h_m_held h_m_text h_m_now h_m_kept m_pasts m_runs0 m_typed m_spot m_reason m_cause m_orders m_kindNow m_placeNow m_s m_past m_held m_text m_now m_kept e7 hu48) 0 [0, 1, 2, 3, 4, 5, 6] rfl rfl (rmok_of (Nat.le_of_ble_eq_true rfl)) ⟨Nat.zero_le _, Nat.zero_le _⟩ rfl rfl rfl rfl rfl ⟨rfl, rfl, rfl⟩ dX6_pairAt_129 ?_
          have h := Option.some.inj h
          subst h
          refine G_lv (lv' := []) lsame_nil ?_
          exact hj45
        · have h := ip h c49
          refine G_iload_n hc dX6_pairAt_123 rfl ?_
          refine G_goto (tgt := 132) hc dX6_pairAt_124 (by decide) ?_
          have h := Option.some.inj h
          subst h
          refine G_lv (lv' := []) lsame_nil ?_
          exact hj45
      clear h
      have hL9 : ∀ (n10 : Nat) (u5 : Int32) (u6 : Int32), f_X6_pairAt_L27 F m_s a1 n10 u5 u6 = some e7 → G p l e (rmk 3) s m [.ref h_m, .int a1, .int a2].toArray below meth c D A 7 0 0 (QI below [.ref h_m, .int a1, .int a2].toArray s D A (PoI res [(h_m, .inr (6, [.ref h_m_s, .ref h_m_past, .ref h_m_held, .int m_pasts, .int m_runs0, .ref h_m_text, .int m_typed, .ref h_m_now, .ref h_m_kept, .int m_spot, .int m_reason, .int m_cause, .int m_orders, .int m_kindNow, .int m_placeNow])), (h_m_s, .inl (cI, 116, .inl m_s)), (h_m_past, .inl (cI, 464, .inl m_past)), (h_m_held, .inl (cI, 116, .inl m_held)), (h_m_text, .inl (cI, 60, .inl m_text)), (h_m_now, .inl (cI, 10, .inl m_now)), (h_m_kept, .inl (cI, 16, .inl m_kept))])) [(h_m, .inr (6, [.ref h_m_s, .ref h_m_past, .ref h_m_held, .int m_pasts, .int m_runs0, .ref h_m_text, .int m_typed, .ref h_m_now, .ref h_m_kept, .int m_spot, .int m_reason, .int m_cause, .int m_orders, .int m_kindNow, .int m_placeNow])), (h_m_s, .inl (cI, 116, .inl m_s)), (h_m_past, .inl (cI, 464, .inl m_past)), (h_m_held, .inl (cI, 116, .inl m_held)), (h_m_text, .inl (cI, 60, .inl m_text)), (h_m_now, .inl (cI, 10, .inl m_now)), (h_m_kept, .inl (cI, 16, .inl m_kept))] [(0, .ref h_m), (1, .int a1), (2, .int a2), (3, .int u5), (4, .int u6)] 27 [] := by
        intro n10
        induction n10 with
        | zero =>
          intro u5 u6 h
          exact nz h
        | succ n10 ih11 =>
          intro u5 u6 h
          rw [f_X6_pairAt_L27] at h
          refine G_iload hc dX6_pairAt_27 rfl ?_
          refine G_bipush (v := 16) hc dX6_pairAt_29 (by decide) ?_
          refine G_icmp_ge (tgt := 119) hc dX6_pairAt_31 (by decide) (fun c43 => ?_) (fun c43 => ?_)
          · have h := ip h c43
            have h := Option.some.inj h
            subst h
            refine G_lv (lv' := [(0, .ref h_m), (2, .int a2), (3, .int u5)]) (lsame_cons rfl (lsame_cons rfl (lsame_cons rfl lsame_nil))) ?_
            exact hK12
          · have h := inn h c43
            refine G_iconst (v := 0) hc dX6_pairAt_34 (by decide) ?_
            refine G_istore (lv' := [(0, .ref h_m), (1, .int a1), (2, .int a2), (3, .int u5), (4, .int u6), (5, .int (0 : Int32))]) hc dX6_pairAt_35 rfl rfl ?_
            refine G_iconst (v := 0) hc dX6_pairAt_37 (by decide) ?_
            refine G_istore (lv' := [(0, .ref h_m), (1, .int a1), (2, .int a2), (3, .int u5), (4, .int u6), (5, .int (0 : Int32)), (6, .int (0 : Int32))]) hc dX6_pairAt_38 rfl rfl ?_
            obtain ⟨e15, hl16, h⟩ := ob h
            have hK20 : G p l e (rmk 3) s m [.ref h_m, .int a1, .int a2].toArray below meth c D A 7 0 0 (QI below [.ref h_m, .int a1, .int a2].toArray s D A (PoI res [(h_m, .inr (6, [.ref h_m_s, .ref h_m_past, .ref h_m_held, .int m_pasts, .int m_runs0, .ref h_m_text, .int m_typed, .ref h_m_now, .ref h_m_kept, .int m_spot, .int m_reason, .int m_cause, .int m_orders, .int m_kindNow, .int m_placeNow])), (h_m_s, .inl (cI, 116, .inl m_s)), (h_m_past, .inl (cI, 464, .inl m_past)), (h_m_held, .inl (cI, 116, .inl m_held)), (h_m_text, .inl (cI, 60, .inl m_text)), (h_m_now, .inl (cI, 10, .inl m_now)), (h_m_kept, .inl (cI, 16, .inl m_kept))])) [(h_m, .inr (6, [.ref h_m_s, .ref h_m_past, .ref h_m_held, .int m_pasts, .int m_runs0, .ref h_m_text, .int m_typed, .ref h_m_now, .ref h_m_kept, .int m_spot, .int m_reason, .int m_cause, .int m_orders, .int m_kindNow, .int m_placeNow])), (h_m_s, .inl (cI, 116, .inl m_s)), (h_m_past, .inl (cI, 464, .inl m_past)), (h_m_held, .inl (cI, 116, .inl m_held)), (h_m_text, .inl (cI, 60, .inl m_text)), (h_m_now, .inl (cI, 10, .inl m_now)), (h_m_kept, .inl (cI, 16, .inl m_kept))] [(0, .ref h_m), (1, .int a1), (2, .int a2), (3, .int u5), (4, .int u6), (5, .int e15)] 100 [] := by
              refine G_iload hc dX6_pairAt_100 rfl ?_
              refine G_iload_n hc dX6_pairAt_102 rfl ?_
              obtain ⟨t38, hr40, h⟩ := ob h
              have hj39 : G p l e (rmk 3) s m [.ref h_m, .int a1, .int a2].toArray below meth c D A 7 0 0 (QI below [.ref h_m, .int a1, .int a2].toArray s D A (PoI res [(h_m, .inr (6, [.ref h_m_s, .ref h_m_past, .ref h_m_held, .int m_pasts, .int m_runs0, .ref h_m_text, .int m_typed, .ref h_m_now, .ref h_m_kept, .int m_spot, .int m_reason, .int m_cause, .int m_orders, .int m_kindNow, .int m_placeNow])), (h_m_s, .inl (cI, 116, .inl m_s)), (h_m_past, .inl (cI, 464, .inl m_past)), (h_m_held, .inl (cI, 116, .inl m_held)), (h_m_text, .inl (cI, 60, .inl m_text)), (h_m_now, .inl (cI, 10, .inl m_now)), (h_m_kept, .inl (cI, 16, .inl m_kept))])) [(h_m, .inr (6, [.ref h_m_s, .ref h_m_past, .ref h_m_held, .int m_pasts, .int m_runs0, .ref h_m_text, .int m_typed, .ref h_m_now, .ref h_m_kept, .int m_spot, .int m_reason, .int m_cause, .int m_orders, .int m_kindNow, .int m_placeNow])), (h_m_s, .inl (cI, 116, .inl m_s)), (h_m_past, .inl (cI, 464, .inl m_past)), (h_m_held, .inl (cI, 116, .inl m_held)), (h_m_text, .inl (cI, 60, .inl m_text)), (h_m_now, .inl (cI, 10, .inl m_now)), (h_m_kept, .inl (cI, 16, .inl m_kept))] [(0, .ref h_m), (1, .int a1), (2, .int a2), (4, .int u6)] 112 [.int t38] := by
                refine G_istore_n (lv' := [(0, .ref h_m), (1, .int a1), (2, .int a2), (4, .int u6), (3, .int t38)]) hc dX6_pairAt_112 rfl rfl ?_
                obtain ⟨v42, e_v42, h⟩ := sb h
                refine G_iinc (v := v42) (lv' := [(0, .ref h_m), (1, .int a1), (2, .int a2), (4, .int v42), (3, .int t38)]) hc dX6_pairAt_113 rfl (e_v42.trans rfl) rfl rfl ?_
                refine G_goto (tgt := 27) hc dX6_pairAt_116 (by decide) ?_
                refine G_lv (lv' := [(0, .ref h_m), (1, .int a1), (2, .int a2), (3, .int t38), (4, .int v42)]) (lsame_cons rfl (lsame_cons rfl (lsame_cons rfl (lsame_cons rfl (lsame_cons rfl lsame_nil))))) ?_
                exact ih11 _ _ h
              clear h
              have h := hr40
              clear hr40
              refine G_icmp_ne (tgt := 111) hc dX6_pairAt_103 (by decide) (fun c41 => ?_) (fun c41 => ?_)
              · have h := inn h c41
                refine G_iload_n hc dX6_pairAt_111 rfl ?_
                have h := Option.some.inj h
                subst h
                refine G_lv (lv' := [(0, .ref h_m), (1, .int a1), (2, .int a2), (4, .int u6)]) (lsame_cons rfl (lsame_cons rfl (lsame_cons rfl (lsame_cons rfl lsame_nil)))) ?_
                exact hj39
              · have h := ip h c41
                refine G_iload hc dX6_pairAt_106 rfl ?_
                refine G_goto (tgt := 112) hc dX6_pairAt_108 (by decide) ?_
                have h := Option.some.inj h
                subst h
                refine G_lv (lv' := [(0, .ref h_m), (1, .int a1), (2, .int a2), (4, .int u6)]) (lsame_cons rfl (lsame_cons rfl (lsame_cons rfl (lsame_cons rfl lsame_nil)))) ?_
                exact hj39
            clear h
            have hL17 : ∀ (n18 : Nat) (u13 : Int32) (u14 : Int32), f_X6_pairAt_L40 F m_s u6 n18 u13 u14 = some e15 → G p l e (rmk 3) s m [.ref h_m, .int a1, .int a2].toArray below meth c D A 7 0 0 (QI below [.ref h_m, .int a1, .int a2].toArray s D A (PoI res [(h_m, .inr (6, [.ref h_m_s, .ref h_m_past, .ref h_m_held, .int m_pasts, .int m_runs0, .ref h_m_text, .int m_typed, .ref h_m_now, .ref h_m_kept, .int m_spot, .int m_reason, .int m_cause, .int m_orders, .int m_kindNow, .int m_placeNow])), (h_m_s, .inl (cI, 116, .inl m_s)), (h_m_past, .inl (cI, 464, .inl m_past)), (h_m_held, .inl (cI, 116, .inl m_held)), (h_m_text, .inl (cI, 60, .inl m_text)), (h_m_now, .inl (cI, 10, .inl m_now)), (h_m_kept, .inl (cI, 16, .inl m_kept))])) [(h_m, .inr (6, [.ref h_m_s, .ref h_m_past, .ref h_m_held, .int m_pasts, .int m_runs0, .ref h_m_text, .int m_typed, .ref h_m_now, .ref h_m_kept, .int m_spot, .int m_reason, .int m_cause, .int m_orders, .int m_kindNow, .int m_placeNow])), (h_m_s, .inl (cI, 116, .inl m_s)), (h_m_past, .inl (cI, 464, .inl m_past)), (h_m_held, .inl (cI, 116, .inl m_held)), (h_m_text, .inl (cI, 60, .inl m_text)), (h_m_now, .inl (cI, 10, .inl m_now)), (h_m_kept, .inl (cI, 16, .inl m_kept))] [(0, .ref h_m), (1, .int a1), (2, .int a2), (3, .int u5), (4, .int u6), (5, .int u13), (6, .int u14)] 40 [] := by
              intro n18
              induction n18 with
              | zero =>
                intro u13 u14 h
                exact nz h
              | succ n18 ih19 =>
                intro u13 u14 h
                rw [f_X6_pairAt_L40] at h
                refine G_iload hc dX6_pairAt_40 rfl ?_
                refine G_bipush (v := 16) hc dX6_pairAt_42 (by decide) ?_
                refine G_icmp_ge (tgt := 100) hc dX6_pairAt_44 (by decide) (fun c37 => ?_) (fun c37 => ?_)
                · have h := ip h c37
                  have h := Option.some.inj h
                  subst h
                  refine G_lv (lv' := [(0, .ref h_m), (1, .int a1), (2, .int a2), (3, .int u5), (4, .int u6), (5, .int u13)]) (lsame_cons rfl (lsame_cons rfl (lsame_cons rfl (lsame_cons rfl (lsame_cons rfl (lsame_cons rfl lsame_nil)))))) ?_
                  exact hK20
                · have h := inn h c37
                  refine G_iload hc dX6_pairAt_47 rfl ?_
                  refine G_aload_n hc dX6_pairAt_49 rfl ?_
                  refine G_iload hc dX6_pairAt_50 rfl ?_
                  obtain ⟨z21, hu22, h⟩ := ob h
                  refine G_callVI (ws2 := [(h_m, .inr (6, [.ref h_m_s, .ref h_m_past, .ref h_m_held, .int m_pasts, .int m_runs0, .ref h_m_text, .int m_typed, .ref h_m_now, .ref h_m_kept, .int m_spot, .int m_reason, .int m_cause, .int m_orders, .int m_kindNow, .int m_placeNow])), (h_m_s, .inl (cI, 116, .inl m_s)), (h_m_past, .inl (cI, 464, .inl m_past)), (h_m_held, .inl (cI, 116, .inl m_held)), (h_m_text, .inl (cI, 60, .inl m_text)), (h_m_now, .inl (cI, 10, .inl m_now)), (h_m_kept, .inl (cI, 16, .inl m_kept))]) hc m_X6_55 (c_X6_pairs l D cI cS X F h_m h_m_s h_m_past h_m_held h_m_text h_m_now h_m_kept m_pasts m_runs0 m_typed m_spot m_reason m_cause m_orders m_kindNow m_placeNow m_s m_past m_held m_text m_now m_kept u14 hu22) 0 [0, 1, 2, 3, 4, 5, 6] rfl rfl (rmok_of (Nat.le_of_ble_eq_true rfl)) ⟨Nat.zero_le _, Nat.zero_le _⟩ rfl rfl rfl rfl rfl ⟨rfl, rfl, rfl⟩ dX6_pairAt_52 ?_
                  refine G_aload_n hc dX6_pairAt_55 rfl ?_
                  refine G_iload hc dX6_pairAt_56 rfl ?_
                  obtain ⟨z23, hu24, h⟩ := ob h
                  refine G_callVI (ws2 := [(h_m, .inr (6, [.ref h_m_s, .ref h_m_past, .ref h_m_held, .int m_pasts, .int m_runs0, .ref h_m_text, .int m_typed, .ref h_m_now, .ref h_m_kept, .int m_spot, .int m_reason, .int m_cause, .int m_orders, .int m_kindNow, .int m_placeNow])), (h_m_s, .inl (cI, 116, .inl m_s)), (h_m_past, .inl (cI, 464, .inl m_past)), (h_m_held, .inl (cI, 116, .inl m_held)), (h_m_text, .inl (cI, 60, .inl m_text)), (h_m_now, .inl (cI, 10, .inl m_now)), (h_m_kept, .inl (cI, 16, .inl m_kept))]) hc m_X6_55 (c_X6_pairs l D cI cS X F h_m h_m_s h_m_past h_m_held h_m_text h_m_now h_m_kept m_pasts m_runs0 m_typed m_spot m_reason m_cause m_orders m_kindNow m_placeNow m_s m_past m_held m_text m_now m_kept u6 hu24) 0 [0, 1, 2, 3, 4, 5, 6] rfl rfl (rmok_of (Nat.le_of_ble_eq_true rfl)) ⟨Nat.zero_le _, Nat.zero_le _⟩ rfl rfl rfl rfl rfl ⟨rfl, rfl, rfl⟩ dX6_pairAt_58 ?_
                  obtain ⟨t25, hr27, h⟩ := ob h
                  have hj26 : G p l e (rmk 3) s m [.ref h_m, .int a1, .int a2].toArray below meth c D A 7 0 0 (QI below [.ref h_m, .int a1, .int a2].toArray s D A (PoI res [(h_m, .inr (6, [.ref h_m_s, .ref h_m_past, .ref h_m_held, .int m_pasts, .int m_runs0, .ref h_m_text, .int m_typed, .ref h_m_now, .ref h_m_kept, .int m_spot, .int m_reason, .int m_cause, .int m_orders, .int m_kindNow, .int m_placeNow])), (h_m_s, .inl (cI, 116, .inl m_s)), (h_m_past, .inl (cI, 464, .inl m_past)), (h_m_held, .inl (cI, 116, .inl m_held)), (h_m_text, .inl (cI, 60, .inl m_text)), (h_m_now, .inl (cI, 10, .inl m_now)), (h_m_kept, .inl (cI, 16, .inl m_kept))])) [(h_m, .inr (6, [.ref h_m_s, .ref h_m_past, .ref h_m_held, .int m_pasts, .int m_runs0, .ref h_m_text, .int m_typed, .ref h_m_now, .ref h_m_kept, .int m_spot, .int m_reason, .int m_cause, .int m_orders, .int m_kindNow, .int m_placeNow])), (h_m_s, .inl (cI, 116, .inl m_s)), (h_m_past, .inl (cI, 464, .inl m_past)), (h_m_held, .inl (cI, 116, .inl m_held)), (h_m_text, .inl (cI, 60, .inl m_text)), (h_m_now, .inl (cI, 10, .inl m_now)), (h_m_kept, .inl (cI, 16, .inl m_kept))] [(0, .ref h_m), (1, .int a1), (2, .int a2), (3, .int u5), (4, .int u6), (6, .int u14)] 91 [.int t25, .int u13] := by
                    refine G_iadd hc dX6_pairAt_91 ?_
                    obtain ⟨v35, e_v35, h⟩ := sb h
                    refine G_top e_v35 ?_
                    refine G_istore (lv' := [(0, .ref h_m), (1, .int a1), (2, .int a2), (3, .int u5), (4, .int u6), (6, .int u14), (5, .int v35)]) hc dX6_pairAt_92 rfl rfl ?_
                    obtain ⟨v36, e_v36, h⟩ := sb h
                    refine G_iinc (v := v36) (lv' := [(0, .ref h_m), (1, .int a1), (2, .int a2), (3, .int u5), (4, .int u6), (6, .int v36), (5, .int v35)]) hc dX6_pairAt_94 rfl (e_v36.trans rfl) rfl rfl ?_
                    refine G_goto (tgt := 40) hc dX6_pairAt_97 (by decide) ?_
                    refine G_lv (lv' := [(0, .ref h_m), (1, .int a1), (2, .int a2), (3, .int u5), (4, .int u6), (5, .int v35), (6, .int v36)]) (lsame_cons rfl (lsame_cons rfl (lsame_cons rfl (lsame_cons rfl (lsame_cons rfl (lsame_cons rfl (lsame_cons rfl lsame_nil))))))) ?_
                    exact ih19 _ _ h
                  clear h
                  have h := hr27
                  clear hr27
                  refine G_icmp_gt (tgt := 86) hc dX6_pairAt_61 (by decide) (fun c34 => ?_) (fun c34 => ?_)
                  · have h := ip h c34
                    refine G_iconst (v := 1) hc dX6_pairAt_86 (by decide) ?_
                    refine G_goto (tgt := 91) hc dX6_pairAt_87 (by decide) ?_
                    have h := Option.some.inj h
                    subst h
                    refine G_lv (lv' := [(0, .ref h_m), (1, .int a1), (2, .int a2), (3, .int u5), (4, .int u6), (6, .int u14)]) (lsame_cons rfl (lsame_cons rfl (lsame_cons rfl (lsame_cons rfl (lsame_cons rfl (lsame_cons rfl lsame_nil)))))) ?_
                    exact hj26
                  · have h := inn h c34
                    refine G_iload hc dX6_pairAt_64 rfl ?_
                    refine G_iload hc dX6_pairAt_66 rfl ?_
                    refine G_icmp_ge (tgt := 90) hc dX6_pairAt_68 (by decide) (fun c33 => ?_) (fun c33 => ?_)
                    · have h := ip h c33
                      refine G_iconst (v := 0) hc dX6_pairAt_90 (by decide) ?_
                      have h := Option.some.inj h
                      subst h
                      refine G_lv (lv' := [(0, .ref h_m), (1, .int a1), (2, .int a2), (3, .int u5), (4, .int u6), (6, .int u14)]) (lsame_cons rfl (lsame_cons rfl (lsame_cons rfl (lsame_cons rfl (lsame_cons rfl (lsame_cons rfl lsame_nil)))))) ?_
                      exact hj26
                    · have h := inn h c33
                      refine G_aload_n hc dX6_pairAt_71 rfl ?_
                      refine G_iload hc dX6_pairAt_72 rfl ?_
                      obtain ⟨z28, hu29, h⟩ := ob h
                      refine G_callVI (ws2 := [(h_m, .inr (6, [.ref h_m_s, .ref h_m_past, .ref h_m_held, .int m_pasts, .int m_runs0, .ref h_m_text, .int m_typed, .ref h_m_now, .ref h_m_kept, .int m_spot, .int m_reason, .int m_cause, .int m_orders, .int m_kindNow, .int m_placeNow])), (h_m_s, .inl (cI, 116, .inl m_s)), (h_m_past, .inl (cI, 464, .inl m_past)), (h_m_held, .inl (cI, 116, .inl m_held)), (h_m_text, .inl (cI, 60, .inl m_text)), (h_m_now, .inl (cI, 10, .inl m_now)), (h_m_kept, .inl (cI, 16, .inl m_kept))]) hc m_X6_55 (c_X6_pairs l D cI cS X F h_m h_m_s h_m_past h_m_held h_m_text h_m_now h_m_kept m_pasts m_runs0 m_typed m_spot m_reason m_cause m_orders m_kindNow m_placeNow m_s m_past m_held m_text m_now m_kept u14 hu29) 0 [0, 1, 2, 3, 4, 5, 6] rfl rfl (rmok_of (Nat.le_of_ble_eq_true rfl)) ⟨Nat.zero_le _, Nat.zero_le _⟩ rfl rfl rfl rfl rfl ⟨rfl, rfl, rfl⟩ dX6_pairAt_74 ?_
                      refine G_aload_n hc dX6_pairAt_77 rfl ?_
                      refine G_iload hc dX6_pairAt_78 rfl ?_
                      obtain ⟨z30, hu31, h⟩ := ob h
                      refine G_callVI (ws2 := [(h_m, .inr (6, [.ref h_m_s, .ref h_m_past, .ref h_m_held, .int m_pasts, .int m_runs0, .ref h_m_text, .int m_typed, .ref h_m_now, .ref h_m_kept, .int m_spot, .int m_reason, .int m_cause, .int m_orders, .int m_kindNow, .int m_placeNow])), (h_m_s, .inl (cI, 116, .inl m_s)), (h_m_past, .inl (cI, 464, .inl m_past)), (h_m_held, .inl (cI, 116, .inl m_held)), (h_m_text, .inl (cI, 60, .inl m_text)), (h_m_now, .inl (cI, 10, .inl m_now)), (h_m_kept, .inl (cI, 16, .inl m_kept))]) hc m_X6_55 (c_X6_pairs l D cI cS X F h_m h_m_s h_m_past h_m_held h_m_text h_m_now h_m_kept m_pasts m_runs0 m_typed m_spot m_reason m_cause m_orders m_kindNow m_placeNow m_s m_past m_held m_text m_now m_kept u6 hu31) 0 [0, 1, 2, 3, 4, 5, 6] rfl rfl (rmok_of (Nat.le_of_ble_eq_true rfl)) ⟨Nat.zero_le _, Nat.zero_le _⟩ rfl rfl rfl rfl rfl ⟨rfl, rfl, rfl⟩ dX6_pairAt_80 ?_
                      refine G_icmp_ne (tgt := 90) hc dX6_pairAt_83 (by decide) (fun c32 => ?_) (fun c32 => ?_)
                      · have h := inn h c32
                        refine G_iconst (v := 0) hc dX6_pairAt_90 (by decide) ?_
                        have h := Option.some.inj h
                        subst h
                        refine G_lv (lv' := [(0, .ref h_m), (1, .int a1), (2, .int a2), (3, .int u5), (4, .int u6), (6, .int u14)]) (lsame_cons rfl (lsame_cons rfl (lsame_cons rfl (lsame_cons rfl (lsame_cons rfl (lsame_cons rfl lsame_nil)))))) ?_
                        exact hj26
                      · have h := ip h c32
                        refine G_iconst (v := 1) hc dX6_pairAt_86 (by decide) ?_
                        refine G_goto (tgt := 91) hc dX6_pairAt_87 (by decide) ?_
                        have h := Option.some.inj h
                        subst h
                        refine G_lv (lv' := [(0, .ref h_m), (1, .int a1), (2, .int a2), (3, .int u5), (4, .int u6), (6, .int u14)]) (lsame_cons rfl (lsame_cons rfl (lsame_cons rfl (lsame_cons rfl (lsame_cons rfl (lsame_cons rfl lsame_nil)))))) ?_
                        exact hj26
            refine G_lv (lv' := [(0, .ref h_m), (1, .int a1), (2, .int a2), (3, .int u5), (4, .int u6), (5, .int (0 : Int32)), (6, .int (0 : Int32))]) (lsame_cons rfl (lsame_cons rfl (lsame_cons rfl (lsame_cons rfl (lsame_cons rfl (lsame_cons rfl (lsame_cons rfl lsame_nil))))))) ?_
            exact hL17 F _ _ hl16
      refine G_lv (lv' := [(0, .ref h_m), (1, .int a1), (2, .int a2), (3, .int (0 : Int32)), (4, .int (0 : Int32))]) (lsame_cons rfl (lsame_cons rfl (lsame_cons rfl (lsame_cons rfl (lsame_cons rfl lsame_nil))))) ?_
      exact hL9 F _ _ hl8
    · have h := ip h c50
      refine G_ldc (v := -1000001) hc k_X6_44 dX6_pairAt_19 ?_
      have h := Option.some.inj h
      subst h
      exact G_ireturn hc ⟨rfl, rfl⟩ dX6_pairAt_21
set_option maxHeartbeats 4000000 in
set_option maxRecDepth 100000 in
theorem c_X6_common0 (l : Launch) (D : va_G) (cI cS : ClassId) (X : XP) (F : Nat) (a0 : Int32) (a1 : Int32) {res : Int32} (h : f_X6_common0 F a0 a1 = some res) : CtI l D cI cS X yX6_common0 cX6_common0 5 (some .int) 1 [.int a0, .int a1] [] (PoI res []) := by
  refine CtI.of (by decide +kernel) rfl ?_
  intro p e s m below meth c A hc
  refine G_lv (lv' := [(0, .int a0), (1, .int a1)]) (lsame_cons rfl (lsame_cons rfl lsame_nil)) ?_
  unfold f_X6_common0 at h
  refine G_iload_n hc dX6_common0_0 rfl ?_
  refine G_istore_n (lv' := [(0, .int a0), (1, .int a1), (2, .int a0)]) hc dX6_common0_1 rfl rfl ?_
  refine G_iload_n hc dX6_common0_2 rfl ?_
  refine G_istore_n (lv' := [(0, .int a0), (1, .int a1), (2, .int a0), (3, .int a1)]) hc dX6_common0_3 rfl rfl ?_
  obtain ⟨e3, hl4, h⟩ := ob h
  have hK8 : G p l e (rmk 1) s m [.int a0, .int a1].toArray below meth c D A 5 0 0 (QI below [.int a0, .int a1].toArray s D A (PoI res [])) [] [(2, .int e3)] 21 [] := by
    refine G_iload_n hc dX6_common0_21 rfl ?_
    have h := Option.some.inj h
    subst h
    exact G_ireturn hc ⟨rfl, rfl⟩ dX6_common0_22
  clear h
  have hL5 : ∀ (n6 : Nat) (u1 : Int32) (u2 : Int32), f_X6_common0_L4 F  n6 u1 u2 = some e3 → G p l e (rmk 1) s m [.int a0, .int a1].toArray below meth c D A 5 0 0 (QI below [.int a0, .int a1].toArray s D A (PoI res [])) [] [(2, .int u1), (3, .int u2)] 4 [] := by
    intro n6
    induction n6 with
    | zero =>
      intro u1 u2 h
      exact nz h
    | succ n6 ih7 =>
      intro u1 u2 h
      rw [f_X6_common0_L4] at h
      refine G_iload_n hc dX6_common0_4 rfl ?_
      refine G_if_le (tgt := 21) hc dX6_common0_5 (by decide) (fun c11 => ?_) (fun c11 => ?_)
      · have h := ip h c11
        have h := Option.some.inj h
        subst h
        refine G_lv (lv' := [(2, .int u1)]) (lsame_cons rfl lsame_nil) ?_
        exact hK8
      · have h := inn h c11
        refine G_iload_n hc dX6_common0_8 rfl ?_
        refine G_iload_n hc dX6_common0_9 rfl ?_
        obtain ⟨hz9, h⟩ := db h
        refine G_irem hc dX6_common0_10 hz9 ?_
        obtain ⟨v10, e_v10, h⟩ := sb h
        refine G_top e_v10 ?_
        refine G_istore (lv' := [(2, .int u1), (3, .int u2), (4, .int v10)]) hc dX6_common0_11 rfl rfl ?_
        refine G_iload_n hc dX6_common0_13 rfl ?_
        refine G_istore_n (lv' := [(2, .int u2), (3, .int u2), (4, .int v10)]) hc dX6_common0_14 rfl rfl ?_
        refine G_iload hc dX6_common0_15 rfl ?_
        refine G_istore_n (lv' := [(2, .int u2), (3, .int v10), (4, .int v10)]) hc dX6_common0_17 rfl rfl ?_
        refine G_goto (tgt := 4) hc dX6_common0_18 (by decide) ?_
        refine G_lv (lv' := [(2, .int u2), (3, .int v10)]) (lsame_cons rfl (lsame_cons rfl lsame_nil)) ?_
        exact ih7 _ _ h
  refine G_lv (lv' := [(2, .int a0), (3, .int a1)]) (lsame_cons rfl (lsame_cons rfl lsame_nil)) ?_
  exact hL5 F _ _ hl4
set_option maxHeartbeats 4000000 in
set_option maxRecDepth 100000 in
theorem c_X6_bias (l : Launch) (D : va_G) (cI cS : ClassId) (X : XP) (F : Nat) (h_m h_m_s h_m_past h_m_held h_m_text h_m_now h_m_kept : Nat) (m_pasts : Int32) (m_runs0 : Int32) (m_typed : Int32) (m_spot : Int32) (m_reason : Int32) (m_cause : Int32) (m_orders : Int32) (m_kindNow : Int32) (m_placeNow : Int32) (m_s : Nat → Int32) (m_past : Nat → Int32) (m_held : Nat → Int32) (m_text : Nat → Int32) (m_now : Nat → Int32) (m_kept : Nat → Int32) (a1 : Int32) (a2 : Int32) (a3 : Int32) {res : Int32} (h : f_X6_bias F m_s a1 a2 a3 = some res) : CtI l D cI cS X yX6_bias cX6_bias 7 (some .int) 3 [.ref h_m, .int a1, .int a2, .int a3] [(h_m, .inr (6, [.ref h_m_s, .ref h_m_past, .ref h_m_held, .int m_pasts, .int m_runs0, .ref h_m_text, .int m_typed, .ref h_m_now, .ref h_m_kept, .int m_spot, .int m_reason, .int m_cause, .int m_orders, .int m_kindNow, .int m_placeNow])), (h_m_s, .inl (cI, 116, .inl m_s)), (h_m_past, .inl (cI, 464, .inl m_past)), (h_m_held, .inl (cI, 116, .inl m_held)), (h_m_text, .inl (cI, 60, .inl m_text)), (h_m_now, .inl (cI, 10, .inl m_now)), (h_m_kept, .inl (cI, 16, .inl m_kept))] (PoI res [(h_m, .inr (6, [.ref h_m_s, .ref h_m_past, .ref h_m_held, .int m_pasts, .int m_runs0, .ref h_m_text, .int m_typed, .ref h_m_now, .ref h_m_kept, .int m_spot, .int m_reason, .int m_cause, .int m_orders, .int m_kindNow, .int m_placeNow])), (h_m_s, .inl (cI, 116, .inl m_s)), (h_m_past, .inl (cI, 464, .inl m_past)), (h_m_held, .inl (cI, 116, .inl m_held)), (h_m_text, .inl (cI, 60, .inl m_text)), (h_m_now, .inl (cI, 10, .inl m_now)), (h_m_kept, .inl (cI, 16, .inl m_kept))]) := by
  refine CtI.of (by decide +kernel) rfl ?_
  intro p e s m below meth c A hc
  refine G_lv (lv' := [(0, .ref h_m), (1, .int a1), (2, .int a2), (3, .int a3)]) (lsame_cons rfl (lsame_cons rfl (lsame_cons rfl (lsame_cons rfl lsame_nil)))) ?_
  unfold f_X6_bias at h
  refine G_iload_n hc dX6_bias_0 rfl ?_
  obtain ⟨z1, hu2, h⟩ := ob h
  refine G_callSI (ws2 := [(h_m, .inr (6, [.ref h_m_s, .ref h_m_past, .ref h_m_held, .int m_pasts, .int m_runs0, .ref h_m_text, .int m_typed, .ref h_m_now, .ref h_m_kept, .int m_spot, .int m_reason, .int m_cause, .int m_orders, .int m_kindNow, .int m_placeNow])), (h_m_s, .inl (cI, 116, .inl m_s)), (h_m_past, .inl (cI, 464, .inl m_past)), (h_m_held, .inl (cI, 116, .inl m_held)), (h_m_text, .inl (cI, 60, .inl m_text)), (h_m_now, .inl (cI, 10, .inl m_now)), (h_m_kept, .inl (cI, 16, .inl m_kept))]) hc m_X6_40 (c_X6_is4 l D cI cS X F a1 hu2) [] (rmok_of (Nat.le_of_ble_eq_true rfl)) ⟨Nat.zero_le _, Nat.zero_le _⟩ rfl rfl rfl rfl rfl ⟨rfl, rfl, rfl⟩ dX6_bias_1 ?_
  refine G_if_eq (tgt := 23) hc dX6_bias_4 (by decide) (fun c31 => ?_) (fun c31 => ?_)
  · have h := ip h c31
    refine G_ldc (v := -1000001) hc k_X6_44 dX6_bias_23 ?_
    have h := Option.some.inj h
    subst h
    exact G_ireturn hc ⟨rfl, rfl⟩ dX6_bias_25
  · have h := inn h c31
    refine G_iload_n hc dX6_bias_7 rfl ?_
    obtain ⟨z3, hu4, h⟩ := ob h
    refine G_callSI (ws2 := [(h_m, .inr (6, [.ref h_m_s, .ref h_m_past, .ref h_m_held, .int m_pasts, .int m_runs0, .ref h_m_text, .int m_typed, .ref h_m_now, .ref h_m_kept, .int m_spot, .int m_reason, .int m_cause, .int m_orders, .int m_kindNow, .int m_placeNow])), (h_m_s, .inl (cI, 116, .inl m_s)), (h_m_past, .inl (cI, 464, .inl m_past)), (h_m_held, .inl (cI, 116, .inl m_held)), (h_m_text, .inl (cI, 60, .inl m_text)), (h_m_now, .inl (cI, 10, .inl m_now)), (h_m_kept, .inl (cI, 16, .inl m_kept))]) hc m_X6_40 (c_X6_is4 l D cI cS X F a2 hu4) [] (rmok_of (Nat.le_of_ble_eq_true rfl)) ⟨Nat.zero_le _, Nat.zero_le _⟩ rfl rfl rfl rfl rfl ⟨rfl, rfl, rfl⟩ dX6_bias_8 ?_
    refine G_if_eq (tgt := 23) hc dX6_bias_11 (by decide) (fun c30 => ?_) (fun c30 => ?_)
    · have h := ip h c30
      refine G_ldc (v := -1000001) hc k_X6_44 dX6_bias_23 ?_
      have h := Option.some.inj h
      subst h
      exact G_ireturn hc ⟨rfl, rfl⟩ dX6_bias_25
    · have h := inn h c30
      refine G_iload_n hc dX6_bias_14 rfl ?_
      refine G_iconst (v := 0) hc dX6_bias_15 (by decide) ?_
      refine G_iconst (v := 1) hc dX6_bias_16 (by decide) ?_
      obtain ⟨z5, hu6, h⟩ := ob h
      refine G_callSI (ws2 := [(h_m, .inr (6, [.ref h_m_s, .ref h_m_past, .ref h_m_held, .int m_pasts, .int m_runs0, .ref h_m_text, .int m_typed, .ref h_m_now, .ref h_m_kept, .int m_spot, .int m_reason, .int m_cause, .int m_orders, .int m_kindNow, .int m_placeNow])), (h_m_s, .inl (cI, 116, .inl m_s)), (h_m_past, .inl (cI, 464, .inl m_past)), (h_m_held, .inl (cI, 116, .inl m_held)), (h_m_text, .inl (cI, 60, .inl m_text)), (h_m_now, .inl (cI, 10, .inl m_now)), (h_m_kept, .inl (cI, 16, .inl m_kept))]) hc m_X6_28 (c_X6_in l D cI cS X F a3 (0 : Int32) (1 : Int32) hu6) [] (rmok_of (Nat.le_of_ble_eq_true rfl)) ⟨Nat.zero_le _, Nat.zero_le _⟩ rfl rfl rfl rfl rfl ⟨rfl, rfl, rfl⟩ dX6_bias_17 ?_
      refine G_if_ne (tgt := 26) hc dX6_bias_20 (by decide) (fun c29 => ?_) (fun c29 => ?_)
      · have h := inn h c29
        refine G_aload_n hc dX6_bias_26 rfl ?_
        refine G_iload_n hc dX6_bias_27 rfl ?_
        obtain ⟨z7, hu8, h⟩ := ob h
        refine G_callVI (ws2 := [(h_m, .inr (6, [.ref h_m_s, .ref h_m_past, .ref h_m_held, .int m_pasts, .int m_runs0, .ref h_m_text, .int m_typed, .ref h_m_now, .ref h_m_kept, .int m_spot, .int m_reason, .int m_cause, .int m_orders, .int m_kindNow, .int m_placeNow])), (h_m_s, .inl (cI, 116, .inl m_s)), (h_m_past, .inl (cI, 464, .inl m_past)), (h_m_held, .inl (cI, 116, .inl m_held)), (h_m_text, .inl (cI, 60, .inl m_text)), (h_m_now, .inl (cI, 10, .inl m_now)), (h_m_kept, .inl (cI, 16, .inl m_kept))]) hc m_X6_59 (c_X6_letters l D cI cS X F h_m h_m_s h_m_past h_m_held h_m_text h_m_now h_m_kept m_pasts m_runs0 m_typed m_spot m_reason m_cause m_orders m_kindNow m_placeNow m_s m_past m_held m_text m_now m_kept a1 hu8) 0 [0, 1, 2, 3, 4, 5, 6] rfl rfl (rmok_of (Nat.le_of_ble_eq_true rfl)) ⟨Nat.zero_le _, Nat.zero_le _⟩ rfl rfl rfl rfl rfl ⟨rfl, rfl, rfl⟩ dX6_bias_28 ?_
        refine G_if_eq (tgt := 42) hc dX6_bias_31 (by decide) (fun c28 => ?_) (fun c28 => ?_)
        · have h := ip h c28
          refine G_ldc (v := -1000004) hc k_X6_50 dX6_bias_42 ?_
          have h := Option.some.inj h
          subst h
          exact G_ireturn hc ⟨rfl, rfl⟩ dX6_bias_44
        · have h := inn h c28
          refine G_aload_n hc dX6_bias_34 rfl ?_
          refine G_iload_n hc dX6_bias_35 rfl ?_
          obtain ⟨z9, hu10, h⟩ := ob h
          refine G_callVI (ws2 := [(h_m, .inr (6, [.ref h_m_s, .ref h_m_past, .ref h_m_held, .int m_pasts, .int m_runs0, .ref h_m_text, .int m_typed, .ref h_m_now, .ref h_m_kept, .int m_spot, .int m_reason, .int m_cause, .int m_orders, .int m_kindNow, .int m_placeNow])), (h_m_s, .inl (cI, 116, .inl m_s)), (h_m_past, .inl (cI, 464, .inl m_past)), (h_m_held, .inl (cI, 116, .inl m_held)), (h_m_text, .inl (cI, 60, .inl m_text)), (h_m_now, .inl (cI, 10, .inl m_now)), (h_m_kept, .inl (cI, 16, .inl m_kept))]) hc m_X6_59 (c_X6_letters l D cI cS X F h_m h_m_s h_m_past h_m_held h_m_text h_m_now h_m_kept m_pasts m_runs0 m_typed m_spot m_reason m_cause m_orders m_kindNow m_placeNow m_s m_past m_held m_text m_now m_kept a2 hu10) 0 [0, 1, 2, 3, 4, 5, 6] rfl rfl (rmok_of (Nat.le_of_ble_eq_true rfl)) ⟨Nat.zero_le _, Nat.zero_le _⟩ rfl rfl rfl rfl rfl ⟨rfl, rfl, rfl⟩ dX6_bias_36 ?_
          refine G_if_ne (tgt := 45) hc dX6_bias_39 (by decide) (fun c27 => ?_) (fun c27 => ?_)
          · have h := inn h c27
            refine G_aload_n hc dX6_bias_45 rfl ?_
            refine G_iconst (v := 4) hc dX6_bias_46 (by decide) ?_
            refine G_iload_n hc dX6_bias_47 rfl ?_
            refine G_imul hc dX6_bias_48 ?_
            refine G_iload_n hc dX6_bias_49 rfl ?_
            refine G_iadd hc dX6_bias_50 ?_
            obtain ⟨z11, hu12, h⟩ := ob h
            refine G_callVI (ws2 := [(h_m, .inr (6, [.ref h_m_s, .ref h_m_past, .ref h_m_held, .int m_pasts, .int m_runs0, .ref h_m_text, .int m_typed, .ref h_m_now, .ref h_m_kept, .int m_spot, .int m_reason, .int m_cause, .int m_orders, .int m_kindNow, .int m_placeNow])), (h_m_s, .inl (cI, 116, .inl m_s)), (h_m_past, .inl (cI, 464, .inl m_past)), (h_m_held, .inl (cI, 116, .inl m_held)), (h_m_text, .inl (cI, 60, .inl m_text)), (h_m_now, .inl (cI, 10, .inl m_now)), (h_m_kept, .inl (cI, 16, .inl m_kept))]) hc m_X6_55 (c_X6_pairs l D cI cS X F h_m h_m_s h_m_past h_m_held h_m_text h_m_now h_m_kept m_pasts m_runs0 m_typed m_spot m_reason m_cause m_orders m_kindNow m_placeNow m_s m_past m_held m_text m_now m_kept (((4 : Int32) * a1) + a2) hu12) 0 [0, 1, 2, 3, 4, 5, 6] rfl rfl (rmok_of (Nat.le_of_ble_eq_true rfl)) ⟨Nat.zero_le _, Nat.zero_le _⟩ rfl rfl rfl rfl rfl ⟨rfl, rfl, rfl⟩ dX6_bias_51 ?_
            refine G_aload_n hc dX6_bias_54 rfl ?_
            refine G_get hc f_X6_7 0 rfl rfl dX6_bias_55 ?_
            refine G_iconst (v := 0) hc dX6_bias_58 (by decide) ?_
            obtain ⟨v13, i_v13, e_v13, h⟩ := rb h
            refine G_iald hc 1 rfl i_v13 e_v13 dX6_bias_59 ?_
            refine G_imul hc dX6_bias_60 ?_
            obtain ⟨v14, e_v14, h⟩ := sb h
            refine G_top e_v14 ?_
            refine G_istore (lv' := [(0, .ref h_m), (1, .int a1), (2, .int a2), (3, .int a3), (4, .int v14)]) hc dX6_bias_61 rfl rfl ?_
            refine G_aload_n hc dX6_bias_63 rfl ?_
            refine G_iload_n hc dX6_bias_64 rfl ?_
            obtain ⟨z15, hu16, h⟩ := ob h
            refine G_callVI (ws2 := [(h_m, .inr (6, [.ref h_m_s, .ref h_m_past, .ref h_m_held, .int m_pasts, .int m_runs0, .ref h_m_text, .int m_typed, .ref h_m_now, .ref h_m_kept, .int m_spot, .int m_reason, .int m_cause, .int m_orders, .int m_kindNow, .int m_placeNow])), (h_m_s, .inl (cI, 116, .inl m_s)), (h_m_past, .inl (cI, 464, .inl m_past)), (h_m_held, .inl (cI, 116, .inl m_held)), (h_m_text, .inl (cI, 60, .inl m_text)), (h_m_now, .inl (cI, 10, .inl m_now)), (h_m_kept, .inl (cI, 16, .inl m_kept))]) hc m_X6_59 (c_X6_letters l D cI cS X F h_m h_m_s h_m_past h_m_held h_m_text h_m_now h_m_kept m_pasts m_runs0 m_typed m_spot m_reason m_cause m_orders m_kindNow m_placeNow m_s m_past m_held m_text m_now m_kept a1 hu16) 0 [0, 1, 2, 3, 4, 5, 6] rfl rfl (rmok_of (Nat.le_of_ble_eq_true rfl)) ⟨Nat.zero_le _, Nat.zero_le _⟩ rfl rfl rfl rfl rfl ⟨rfl, rfl, rfl⟩ dX6_bias_65 ?_
            refine G_aload_n hc dX6_bias_68 rfl ?_
            refine G_iload_n hc dX6_bias_69 rfl ?_
            obtain ⟨z17, hu18, h⟩ := ob h
            refine G_callVI (ws2 := [(h_m, .inr (6, [.ref h_m_s, .ref h_m_past, .ref h_m_held, .int m_pasts, .int m_runs0, .ref h_m_text, .int m_typed, .ref h_m_now, .ref h_m_kept, .int m_spot, .int m_reason, .int m_cause, .int m_orders, .int m_kindNow, .int m_placeNow])), (h_m_s, .inl (cI, 116, .inl m_s)), (h_m_past, .inl (cI, 464, .inl m_past)), (h_m_held, .inl (cI, 116, .inl m_held)), (h_m_text, .inl (cI, 60, .inl m_text)), (h_m_now, .inl (cI, 10, .inl m_now)), (h_m_kept, .inl (cI, 16, .inl m_kept))]) hc m_X6_59 (c_X6_letters l D cI cS X F h_m h_m_s h_m_past h_m_held h_m_text h_m_now h_m_kept m_pasts m_runs0 m_typed m_spot m_reason m_cause m_orders m_kindNow m_placeNow m_s m_past m_held m_text m_now m_kept a2 hu18) 0 [0, 1, 2, 3, 4, 5, 6] rfl rfl (rmok_of (Nat.le_of_ble_eq_true rfl)) ⟨Nat.zero_le _, Nat.zero_le _⟩ rfl rfl rfl rfl rfl ⟨rfl, rfl, rfl⟩ dX6_bias_70 ?_
            refine G_imul hc dX6_bias_73 ?_
            obtain ⟨v19, e_v19, h⟩ := sb h
            refine G_top e_v19 ?_
            refine G_istore (lv' := [(0, .ref h_m), (1, .int a1), (2, .int a2), (3, .int a3), (4, .int v14), (5, .int v19)]) hc dX6_bias_74 rfl rfl ?_
            refine G_iload hc dX6_bias_76 rfl ?_
            refine G_iload hc dX6_bias_78 rfl ?_
            obtain ⟨z20, hu21, h⟩ := ob h
            refine G_callSI (ws2 := [(h_m, .inr (6, [.ref h_m_s, .ref h_m_past, .ref h_m_held, .int m_pasts, .int m_runs0, .ref h_m_text, .int m_typed, .ref h_m_now, .ref h_m_kept, .int m_spot, .int m_reason, .int m_cause, .int m_orders, .int m_kindNow, .int m_placeNow])), (h_m_s, .inl (cI, 116, .inl m_s)), (h_m_past, .inl (cI, 464, .inl m_past)), (h_m_held, .inl (cI, 116, .inl m_held)), (h_m_text, .inl (cI, 60, .inl m_text)), (h_m_now, .inl (cI, 10, .inl m_now)), (h_m_kept, .inl (cI, 16, .inl m_kept))]) hc m_X6_62 (c_X6_common0 l D cI cS X F v19 v14 hu21) [] (rmok_of (Nat.le_of_ble_eq_true rfl)) ⟨Nat.zero_le _, Nat.zero_le _⟩ rfl rfl rfl rfl rfl ⟨rfl, rfl, rfl⟩ dX6_bias_80 ?_
            refine G_istore (lv' := [(0, .ref h_m), (1, .int a1), (2, .int a2), (3, .int a3), (4, .int v14), (5, .int v19), (6, .int z20)]) hc dX6_bias_83 rfl rfl ?_
            refine G_iload_n hc dX6_bias_85 rfl ?_
            obtain ⟨t22, hr24, h⟩ := ob h
            have hj23 : G p l e (rmk 3) s m [.ref h_m, .int a1, .int a2, .int a3].toArray below meth c D A 7 0 0 (QI below [.ref h_m, .int a1, .int a2, .int a3].toArray s D A (PoI res [(h_m, .inr (6, [.ref h_m_s, .ref h_m_past, .ref h_m_held, .int m_pasts, .int m_runs0, .ref h_m_text, .int m_typed, .ref h_m_now, .ref h_m_kept, .int m_spot, .int m_reason, .int m_cause, .int m_orders, .int m_kindNow, .int m_placeNow])), (h_m_s, .inl (cI, 116, .inl m_s)), (h_m_past, .inl (cI, 464, .inl m_past)), (h_m_held, .inl (cI, 116, .inl m_held)), (h_m_text, .inl (cI, 60, .inl m_text)), (h_m_now, .inl (cI, 10, .inl m_now)), (h_m_kept, .inl (cI, 16, .inl m_kept))])) [(h_m, .inr (6, [.ref h_m_s, .ref h_m_past, .ref h_m_held, .int m_pasts, .int m_runs0, .ref h_m_text, .int m_typed, .ref h_m_now, .ref h_m_kept, .int m_spot, .int m_reason, .int m_cause, .int m_orders, .int m_kindNow, .int m_placeNow])), (h_m_s, .inl (cI, 116, .inl m_s)), (h_m_past, .inl (cI, 464, .inl m_past)), (h_m_held, .inl (cI, 116, .inl m_held)), (h_m_text, .inl (cI, 60, .inl m_text)), (h_m_now, .inl (cI, 10, .inl m_now)), (h_m_kept, .inl (cI, 16, .inl m_kept))] [(6, .int z20)] 96 [.int t22] := by
              refine G_iload hc dX6_bias_96 rfl ?_
              obtain ⟨hz26, h⟩ := db h
              refine G_idiv hc dX6_bias_98 hz26 ?_
              have h := Option.some.inj h
              subst h
              exact G_ireturn hc ⟨rfl, rfl⟩ dX6_bias_99
            clear h
            have h := hr24
            clear hr24
            refine G_if_ne (tgt := 94) hc dX6_bias_86 (by decide) (fun c25 => ?_) (fun c25 => ?_)
            · have h := inn h c25
              refine G_iload hc dX6_bias_94 rfl ?_
              have h := Option.some.inj h
              subst h
              refine G_lv (lv' := [(6, .int z20)]) (lsame_cons rfl lsame_nil) ?_
              exact hj23
            · have h := ip h c25
              refine G_iload hc dX6_bias_89 rfl ?_
              refine G_goto (tgt := 96) hc dX6_bias_91 (by decide) ?_
              have h := Option.some.inj h
              subst h
              refine G_lv (lv' := [(6, .int z20)]) (lsame_cons rfl lsame_nil) ?_
              exact hj23
          · have h := ip h c27
            refine G_ldc (v := -1000004) hc k_X6_50 dX6_bias_42 ?_
            have h := Option.some.inj h
            subst h
            exact G_ireturn hc ⟨rfl, rfl⟩ dX6_bias_44
      · have h := ip h c29
        refine G_ldc (v := -1000001) hc k_X6_44 dX6_bias_23 ?_
        have h := Option.some.inj h
        subst h
        exact G_ireturn hc ⟨rfl, rfl⟩ dX6_bias_25
set_option maxHeartbeats 4000000 in
set_option maxRecDepth 100000 in
theorem c_X6_begin (l : Launch) (D : va_G) (cI cS : ClassId) (X : XP) (F : Nat) (h_m h_m_s h_m_past h_m_held h_m_text h_m_now h_m_kept : Nat) (m_pasts : Int32) (m_runs0 : Int32) (m_typed : Int32) (m_spot : Int32) (m_reason : Int32) (m_cause : Int32) (m_orders : Int32) (m_kindNow : Int32) (m_placeNow : Int32) (m_s : Nat → Int32) (m_past : Nat → Int32) (m_held : Nat → Int32) (m_text : Nat → Int32) (m_now : Nat → Int32) (m_kept : Nat → Int32) {res : (Nat → Int32) × (Nat → Int32)} (h : f_X6_begin F m_s m_now m_kept = some res) : CtV l D cI cS X yX6_begin cX6_begin 4 3 [.ref h_m] [(h_m, .inr (6, [.ref h_m_s, .ref h_m_past, .ref h_m_held, .int m_pasts, .int m_runs0, .ref h_m_text, .int m_typed, .ref h_m_now, .ref h_m_kept, .int m_spot, .int m_reason, .int m_cause, .int m_orders, .int m_kindNow, .int m_placeNow])), (h_m_s, .inl (cI, 116, .inl m_s)), (h_m_past, .inl (cI, 464, .inl m_past)), (h_m_held, .inl (cI, 116, .inl m_held)), (h_m_text, .inl (cI, 60, .inl m_text)), (h_m_now, .inl (cI, 10, .inl m_now)), (h_m_kept, .inl (cI, 16, .inl m_kept))] (PoV [(h_m, .inr (6, [.ref h_m_s, .ref h_m_past, .ref h_m_held, .int m_pasts, .int m_runs0, .ref h_m_text, .int m_typed, .ref h_m_now, .ref h_m_kept, .int m_spot, .int m_reason, .int m_cause, .int m_orders, .int m_kindNow, .int m_placeNow])), (h_m_s, .inl (cI, 116, .inl m_s)), (h_m_past, .inl (cI, 464, .inl m_past)), (h_m_held, .inl (cI, 116, .inl m_held)), (h_m_text, .inl (cI, 60, .inl m_text)), (h_m_now, .inl (cI, 10, .inl res.1)), (h_m_kept, .inl (cI, 16, .inl res.2))]) := by
  refine CtV.of (by decide +kernel) rfl ?_
  intro p e s m below meth c A hc
  refine G_lv (lv' := [(0, .ref h_m)]) (lsame_cons rfl lsame_nil) ?_
  unfold f_X6_begin at h
  refine G_iconst (v := 0) hc dX6_begin_0 (by decide) ?_
  refine G_istore_n (lv' := [(0, .ref h_m), (1, .int (0 : Int32))]) hc dX6_begin_1 rfl rfl ?_
  refine G_iconst (v := 0) hc dX6_begin_2 (by decide) ?_
  refine G_istore_n (lv' := [(0, .ref h_m), (1, .int (0 : Int32)), (2, .int (0 : Int32))]) hc dX6_begin_3 rfl rfl ?_
  obtain ⟨e4, hl5, h⟩ := ob h
  have hK9 : G p l e (rmk 3) s m [.ref h_m].toArray below meth c D A 4 0 0 (QV below [.ref h_m].toArray s D A (PoV [(h_m, .inr (6, [.ref h_m_s, .ref h_m_past, .ref h_m_held, .int m_pasts, .int m_runs0, .ref h_m_text, .int m_typed, .ref h_m_now, .ref h_m_kept, .int m_spot, .int m_reason, .int m_cause, .int m_orders, .int m_kindNow, .int m_placeNow])), (h_m_s, .inl (cI, 116, .inl m_s)), (h_m_past, .inl (cI, 464, .inl m_past)), (h_m_held, .inl (cI, 116, .inl m_held)), (h_m_text, .inl (cI, 60, .inl m_text)), (h_m_now, .inl (cI, 10, .inl res.1)), (h_m_kept, .inl (cI, 16, .inl res.2))])) [(h_m, .inr (6, [.ref h_m_s, .ref h_m_past, .ref h_m_held, .int m_pasts, .int m_runs0, .ref h_m_text, .int m_typed, .ref h_m_now, .ref h_m_kept, .int m_spot, .int m_reason, .int m_cause, .int m_orders, .int m_kindNow, .int m_placeNow])), (h_m_s, .inl (cI, 116, .inl m_s)), (h_m_past, .inl (cI, 464, .inl m_past)), (h_m_held, .inl (cI, 116, .inl m_held)), (h_m_text, .inl (cI, 60, .inl m_text)), (h_m_now, .inl (cI, 10, .inl e4)), (h_m_kept, .inl (cI, 16, .inl m_kept))] [(0, .ref h_m)] 42 [] := by
    refine G_iconst (v := 0) hc dX6_begin_42 (by decide) ?_
    refine G_istore_n (lv' := [(0, .ref h_m), (2, .int (0 : Int32))]) hc dX6_begin_43 rfl rfl ?_
    obtain ⟨e29, hl30, h⟩ := ob h
    have hK34 : G p l e (rmk 3) s m [.ref h_m].toArray below meth c D A 4 0 0 (QV below [.ref h_m].toArray s D A (PoV [(h_m, .inr (6, [.ref h_m_s, .ref h_m_past, .ref h_m_held, .int m_pasts, .int m_runs0, .ref h_m_text, .int m_typed, .ref h_m_now, .ref h_m_kept, .int m_spot, .int m_reason, .int m_cause, .int m_orders, .int m_kindNow, .int m_placeNow])), (h_m_s, .inl (cI, 116, .inl m_s)), (h_m_past, .inl (cI, 464, .inl m_past)), (h_m_held, .inl (cI, 116, .inl m_held)), (h_m_text, .inl (cI, 60, .inl m_text)), (h_m_now, .inl (cI, 10, .inl res.1)), (h_m_kept, .inl (cI, 16, .inl res.2))])) [(h_m, .inr (6, [.ref h_m_s, .ref h_m_past, .ref h_m_held, .int m_pasts, .int m_runs0, .ref h_m_text, .int m_typed, .ref h_m_now, .ref h_m_kept, .int m_spot, .int m_reason, .int m_cause, .int m_orders, .int m_kindNow, .int m_placeNow])), (h_m_s, .inl (cI, 116, .inl m_s)), (h_m_past, .inl (cI, 464, .inl m_past)), (h_m_held, .inl (cI, 116, .inl m_held)), (h_m_text, .inl (cI, 60, .inl m_text)), (h_m_now, .inl (cI, 10, .inl e4)), (h_m_kept, .inl (cI, 16, .inl e29))] [] 67 [] := by
      have h := Option.some.inj h
      subst h
      exact G_return hc rfl dX6_begin_67
    clear h
    have hL31 : ∀ (n32 : Nat) (u27 : Int32) (u28 : Nat → Int32), f_X6_begin_L44 F m_s n32 u27 u28 = some e29 → G p l e (rmk 3) s m [.ref h_m].toArray below meth c D A 4 0 0 (QV below [.ref h_m].toArray s D A (PoV [(h_m, .inr (6, [.ref h_m_s, .ref h_m_past, .ref h_m_held, .int m_pasts, .int m_runs0, .ref h_m_text, .int m_typed, .ref h_m_now, .ref h_m_kept, .int m_spot, .int m_reason, .int m_cause, .int m_orders, .int m_kindNow, .int m_placeNow])), (h_m_s, .inl (cI, 116, .inl m_s)), (h_m_past, .inl (cI, 464, .inl m_past)), (h_m_held, .inl (cI, 116, .inl m_held)), (h_m_text, .inl (cI, 60, .inl m_text)), (h_m_now, .inl (cI, 10, .inl res.1)), (h_m_kept, .inl (cI, 16, .inl res.2))])) [(h_m, .inr (6, [.ref h_m_s, .ref h_m_past, .ref h_m_held, .int m_pasts, .int m_runs0, .ref h_m_text, .int m_typed, .ref h_m_now, .ref h_m_kept, .int m_spot, .int m_reason, .int m_cause, .int m_orders, .int m_kindNow, .int m_placeNow])), (h_m_s, .inl (cI, 116, .inl m_s)), (h_m_past, .inl (cI, 464, .inl m_past)), (h_m_held, .inl (cI, 116, .inl m_held)), (h_m_text, .inl (cI, 60, .inl m_text)), (h_m_now, .inl (cI, 10, .inl e4)), (h_m_kept, .inl (cI, 16, .inl u28))] [(0, .ref h_m), (2, .int u27)] 44 [] := by
      intro n32
      induction n32 with
      | zero =>
        intro u27 u28 h
        exact nz h
      | succ n32 ih33 =>
        intro u27 u28 h
        rw [f_X6_begin_L44] at h
        refine G_iload_n hc dX6_begin_44 rfl ?_
        refine G_bipush (v := 16) hc dX6_begin_45 (by decide) ?_
        refine G_icmp_ge (tgt := 67) hc dX6_begin_47 (by decide) (fun c39 => ?_) (fun c39 => ?_)
        · have h := ip h c39
          have h := Option.some.inj h
          subst h
          refine G_lv (lv' := []) lsame_nil ?_
          exact hK34
        · have h := inn h c39
          refine G_aload_n hc dX6_begin_50 rfl ?_
          refine G_get hc f_X6_25 0 rfl rfl dX6_begin_51 ?_
          refine G_iload_n hc dX6_begin_54 rfl ?_
          refine G_aload_n hc dX6_begin_55 rfl ?_
          refine G_iload_n hc dX6_begin_56 rfl ?_
          obtain ⟨z35, hu36, h⟩ := ob h
          refine G_callVI (ws2 := [(h_m, .inr (6, [.ref h_m_s, .ref h_m_past, .ref h_m_held, .int m_pasts, .int m_runs0, .ref h_m_text, .int m_typed, .ref h_m_now, .ref h_m_kept, .int m_spot, .int m_reason, .int m_cause, .int m_orders, .int m_kindNow, .int m_placeNow])), (h_m_s, .inl (cI, 116, .inl m_s)), (h_m_past, .inl (cI, 464, .inl m_past)), (h_m_held, .inl (cI, 116, .inl m_held)), (h_m_text, .inl (cI, 60, .inl m_text)), (h_m_now, .inl (cI, 10, .inl e4)), (h_m_kept, .inl (cI, 16, .inl u28))]) hc m_X6_55 (c_X6_pairs l D cI cS X F h_m h_m_s h_m_past h_m_held h_m_text h_m_now h_m_kept m_pasts m_runs0 m_typed m_spot m_reason m_cause m_orders m_kindNow m_placeNow m_s m_past m_held m_text e4 u28 u27 hu36) 0 [0, 1, 2, 3, 4, 5, 6] rfl rfl (rmok_of (Nat.le_of_ble_eq_true rfl)) ⟨Nat.zero_le _, Nat.zero_le _⟩ rfl rfl rfl rfl rfl ⟨rfl, rfl, rfl⟩ dX6_begin_57 ?_
          obtain ⟨v37, i_v37, e_v37, h⟩ := wb h
          refine G_iast (ws' := [(h_m, .inr (6, [.ref h_m_s, .ref h_m_past, .ref h_m_held, .int m_pasts, .int m_runs0, .ref h_m_text, .int m_typed, .ref h_m_now, .ref h_m_kept, .int m_spot, .int m_reason, .int m_cause, .int m_orders, .int m_kindNow, .int m_placeNow])), (h_m_s, .inl (cI, 116, .inl m_s)), (h_m_past, .inl (cI, 464, .inl m_past)), (h_m_held, .inl (cI, 116, .inl m_held)), (h_m_text, .inl (cI, 60, .inl m_text)), (h_m_now, .inl (cI, 10, .inl e4)), (h_m_kept, .inl (cI, 16, .inl v37))]) hc 6 rfl i_v37 e_v37 rfl dX6_begin_60 ?_
          obtain ⟨v38, e_v38, h⟩ := sb h
          refine G_iinc (v := v38) (lv' := [(0, .ref h_m), (2, .int v38)]) hc dX6_begin_61 rfl (e_v38.trans rfl) rfl rfl ?_
          refine G_goto (tgt := 44) hc dX6_begin_64 (by decide) ?_
          refine G_lv (lv' := [(0, .ref h_m), (2, .int v38)]) (lsame_cons rfl (lsame_cons rfl lsame_nil)) ?_
          exact ih33 _ _ h
    refine G_lv (lv' := [(0, .ref h_m), (2, .int (0 : Int32))]) (lsame_cons rfl (lsame_cons rfl lsame_nil)) ?_
    exact hL31 F _ _ hl30
  clear h
  have hL6 : ∀ (n7 : Nat) (u1 : Int32) (u2 : Int32) (u3 : Nat → Int32), f_X6_begin_L4 F m_s n7 u1 u2 u3 = some e4 → G p l e (rmk 3) s m [.ref h_m].toArray below meth c D A 4 0 0 (QV below [.ref h_m].toArray s D A (PoV [(h_m, .inr (6, [.ref h_m_s, .ref h_m_past, .ref h_m_held, .int m_pasts, .int m_runs0, .ref h_m_text, .int m_typed, .ref h_m_now, .ref h_m_kept, .int m_spot, .int m_reason, .int m_cause, .int m_orders, .int m_kindNow, .int m_placeNow])), (h_m_s, .inl (cI, 116, .inl m_s)), (h_m_past, .inl (cI, 464, .inl m_past)), (h_m_held, .inl (cI, 116, .inl m_held)), (h_m_text, .inl (cI, 60, .inl m_text)), (h_m_now, .inl (cI, 10, .inl res.1)), (h_m_kept, .inl (cI, 16, .inl res.2))])) [(h_m, .inr (6, [.ref h_m_s, .ref h_m_past, .ref h_m_held, .int m_pasts, .int m_runs0, .ref h_m_text, .int m_typed, .ref h_m_now, .ref h_m_kept, .int m_spot, .int m_reason, .int m_cause, .int m_orders, .int m_kindNow, .int m_placeNow])), (h_m_s, .inl (cI, 116, .inl m_s)), (h_m_past, .inl (cI, 464, .inl m_past)), (h_m_held, .inl (cI, 116, .inl m_held)), (h_m_text, .inl (cI, 60, .inl m_text)), (h_m_now, .inl (cI, 10, .inl u3)), (h_m_kept, .inl (cI, 16, .inl m_kept))] [(0, .ref h_m), (1, .int u1), (2, .int u2)] 4 [] := by
    intro n7
    induction n7 with
    | zero =>
      intro u1 u2 u3 h
      exact nz h
    | succ n7 ih8 =>
      intro u1 u2 u3 h
      rw [f_X6_begin_L4] at h
      refine G_iload_n hc dX6_begin_4 rfl ?_
      refine G_iconst (v := 4) hc dX6_begin_5 (by decide) ?_
      refine G_icmp_ge (tgt := 42) hc dX6_begin_6 (by decide) (fun c26 => ?_) (fun c26 => ?_)
      · have h := ip h c26
        have h := Option.some.inj h
        subst h
        refine G_lv (lv' := [(0, .ref h_m)]) (lsame_cons rfl lsame_nil) ?_
        exact hK9
      · have h := inn h c26
        refine G_iconst (v := 0) hc dX6_begin_9 (by decide) ?_
        refine G_istore_n (lv' := [(0, .ref h_m), (1, .int u1), (2, .int u2), (3, .int (0 : Int32))]) hc dX6_begin_10 rfl rfl ?_
        obtain ⟨e13, hl14, h⟩ := ob h
        have hK18 : G p l e (rmk 3) s m [.ref h_m].toArray below meth c D A 4 0 0 (QV below [.ref h_m].toArray s D A (PoV [(h_m, .inr (6, [.ref h_m_s, .ref h_m_past, .ref h_m_held, .int m_pasts, .int m_runs0, .ref h_m_text, .int m_typed, .ref h_m_now, .ref h_m_kept, .int m_spot, .int m_reason, .int m_cause, .int m_orders, .int m_kindNow, .int m_placeNow])), (h_m_s, .inl (cI, 116, .inl m_s)), (h_m_past, .inl (cI, 464, .inl m_past)), (h_m_held, .inl (cI, 116, .inl m_held)), (h_m_text, .inl (cI, 60, .inl m_text)), (h_m_now, .inl (cI, 10, .inl res.1)), (h_m_kept, .inl (cI, 16, .inl res.2))])) [(h_m, .inr (6, [.ref h_m_s, .ref h_m_past, .ref h_m_held, .int m_pasts, .int m_runs0, .ref h_m_text, .int m_typed, .ref h_m_now, .ref h_m_kept, .int m_spot, .int m_reason, .int m_cause, .int m_orders, .int m_kindNow, .int m_placeNow])), (h_m_s, .inl (cI, 116, .inl m_s)), (h_m_past, .inl (cI, 464, .inl m_past)), (h_m_held, .inl (cI, 116, .inl m_held)), (h_m_text, .inl (cI, 60, .inl m_text)), (h_m_now, .inl (cI, 10, .inl e13.2)), (h_m_kept, .inl (cI, 16, .inl m_kept))] [(0, .ref h_m), (1, .int e13.1), (2, .int u2)] 36 [] := by
          obtain ⟨v25, e_v25, h⟩ := sb h
          refine G_iinc (v := v25) (lv' := [(0, .ref h_m), (1, .int e13.1), (2, .int v25)]) hc dX6_begin_36 rfl (e_v25.trans rfl) rfl rfl ?_
          refine G_goto (tgt := 4) hc dX6_begin_39 (by decide) ?_
          refine G_lv (lv' := [(0, .ref h_m), (1, .int e13.1), (2, .int v25)]) (lsame_cons rfl (lsame_cons rfl (lsame_cons rfl lsame_nil))) ?_
          exact ih8 _ _ _ h
        clear h
        have hL15 : ∀ (n16 : Nat) (u10 : Int32) (u11 : Int32) (u12 : Nat → Int32), f_X6_begin_L11 F m_s u2 n16 u10 u11 u12 = some e13 → G p l e (rmk 3) s m [.ref h_m].toArray below meth c D A 4 0 0 (QV below [.ref h_m].toArray s D A (PoV [(h_m, .inr (6, [.ref h_m_s, .ref h_m_past, .ref h_m_held, .int m_pasts, .int m_runs0, .ref h_m_text, .int m_typed, .ref h_m_now, .ref h_m_kept, .int m_spot, .int m_reason, .int m_cause, .int m_orders, .int m_kindNow, .int m_placeNow])), (h_m_s, .inl (cI, 116, .inl m_s)), (h_m_past, .inl (cI, 464, .inl m_past)), (h_m_held, .inl (cI, 116, .inl m_held)), (h_m_text, .inl (cI, 60, .inl m_text)), (h_m_now, .inl (cI, 10, .inl res.1)), (h_m_kept, .inl (cI, 16, .inl res.2))])) [(h_m, .inr (6, [.ref h_m_s, .ref h_m_past, .ref h_m_held, .int m_pasts, .int m_runs0, .ref h_m_text, .int m_typed, .ref h_m_now, .ref h_m_kept, .int m_spot, .int m_reason, .int m_cause, .int m_orders, .int m_kindNow, .int m_placeNow])), (h_m_s, .inl (cI, 116, .inl m_s)), (h_m_past, .inl (cI, 464, .inl m_past)), (h_m_held, .inl (cI, 116, .inl m_held)), (h_m_text, .inl (cI, 60, .inl m_text)), (h_m_now, .inl (cI, 10, .inl u12)), (h_m_kept, .inl (cI, 16, .inl m_kept))] [(0, .ref h_m), (1, .int u10), (2, .int u2), (3, .int u11)] 11 [] := by
          intro n16
          induction n16 with
          | zero =>
            intro u10 u11 u12 h
            exact nz h
          | succ n16 ih17 =>
            intro u10 u11 u12 h
            rw [f_X6_begin_L11] at h
            refine G_iload_n hc dX6_begin_11 rfl ?_
            refine G_aload_n hc dX6_begin_12 rfl ?_
            refine G_iload_n hc dX6_begin_13 rfl ?_
            obtain ⟨z19, hu20, h⟩ := ob h
            refine G_callVI (ws2 := [(h_m, .inr (6, [.ref h_m_s, .ref h_m_past, .ref h_m_held, .int m_pasts, .int m_runs0, .ref h_m_text, .int m_typed, .ref h_m_now, .ref h_m_kept, .int m_spot, .int m_reason, .int m_cause, .int m_orders, .int m_kindNow, .int m_placeNow])), (h_m_s, .inl (cI, 116, .inl m_s)), (h_m_past, .inl (cI, 464, .inl m_past)), (h_m_held, .inl (cI, 116, .inl m_held)), (h_m_text, .inl (cI, 60, .inl m_text)), (h_m_now, .inl (cI, 10, .inl u12)), (h_m_kept, .inl (cI, 16, .inl m_kept))]) hc m_X6_59 (c_X6_letters l D cI cS X F h_m h_m_s h_m_past h_m_held h_m_text h_m_now h_m_kept m_pasts m_runs0 m_typed m_spot m_reason m_cause m_orders m_kindNow m_placeNow m_s m_past m_held m_text u12 m_kept u2 hu20) 0 [0, 1, 2, 3, 4, 5, 6] rfl rfl (rmok_of (Nat.le_of_ble_eq_true rfl)) ⟨Nat.zero_le _, Nat.zero_le _⟩ rfl rfl rfl rfl rfl ⟨rfl, rfl, rfl⟩ dX6_begin_14 ?_
            refine G_icmp_ge (tgt := 36) hc dX6_begin_17 (by decide) (fun c24 => ?_) (fun c24 => ?_)
            · have h := ip h c24
              have h := Option.some.inj h
              subst h
              refine G_lv (lv' := [(0, .ref h_m), (1, .int u10), (2, .int u2)]) (lsame_cons rfl (lsame_cons rfl (lsame_cons rfl lsame_nil))) ?_
              exact hK18
            · have h := inn h c24
              refine G_aload_n hc dX6_begin_20 rfl ?_
              refine G_get hc f_X6_22 0 rfl rfl dX6_begin_21 ?_
              refine G_iload_n hc dX6_begin_24 rfl ?_
              refine G_iload_n hc dX6_begin_25 rfl ?_
              obtain ⟨v21, i_v21, e_v21, h⟩ := wb h
              refine G_iast (ws' := [(h_m, .inr (6, [.ref h_m_s, .ref h_m_past, .ref h_m_held, .int m_pasts, .int m_runs0, .ref h_m_text, .int m_typed, .ref h_m_now, .ref h_m_kept, .int m_spot, .int m_reason, .int m_cause, .int m_orders, .int m_kindNow, .int m_placeNow])), (h_m_s, .inl (cI, 116, .inl m_s)), (h_m_past, .inl (cI, 464, .inl m_past)), (h_m_held, .inl (cI, 116, .inl m_held)), (h_m_text, .inl (cI, 60, .inl m_text)), (h_m_now, .inl (cI, 10, .inl v21)), (h_m_kept, .inl (cI, 16, .inl m_kept))]) hc 5 rfl i_v21 e_v21 rfl dX6_begin_26 ?_
              obtain ⟨v22, e_v22, h⟩ := sb h
              refine G_iinc (v := v22) (lv' := [(0, .ref h_m), (1, .int v22), (2, .int u2), (3, .int u11)]) hc dX6_begin_27 rfl (e_v22.trans rfl) rfl rfl ?_
              obtain ⟨v23, e_v23, h⟩ := sb h
              refine G_iinc (v := v23) (lv' := [(0, .ref h_m), (1, .int v22), (2, .int u2), (3, .int v23)]) hc dX6_begin_30 rfl (e_v23.trans rfl) rfl rfl ?_
              refine G_goto (tgt := 11) hc dX6_begin_33 (by decide) ?_
              refine G_lv (lv' := [(0, .ref h_m), (1, .int v22), (2, .int u2), (3, .int v23)]) (lsame_cons rfl (lsame_cons rfl (lsame_cons rfl (lsame_cons rfl lsame_nil)))) ?_
              exact ih17 _ _ _ h
        refine G_lv (lv' := [(0, .ref h_m), (1, .int u1), (2, .int u2), (3, .int (0 : Int32))]) (lsame_cons rfl (lsame_cons rfl (lsame_cons rfl (lsame_cons rfl lsame_nil)))) ?_
        exact hL15 F _ _ _ hl14
  refine G_lv (lv' := [(0, .ref h_m), (1, .int (0 : Int32)), (2, .int (0 : Int32))]) (lsame_cons rfl (lsame_cons rfl (lsame_cons rfl lsame_nil))) ?_
  exact hL6 F _ _ _ hl5
set_option maxHeartbeats 4000000 in
set_option maxRecDepth 100000 in
theorem c_X6_swaps (l : Launch) (D : va_G) (cI cS : ClassId) (X : XP) (F : Nat) (h_m h_m_s h_m_past h_m_held h_m_text h_m_now h_m_kept : Nat) (m_pasts : Int32) (m_runs0 : Int32) (m_typed : Int32) (m_spot : Int32) (m_reason : Int32) (m_cause : Int32) (m_orders : Int32) (m_kindNow : Int32) (m_placeNow : Int32) (m_s : Nat → Int32) (m_past : Nat → Int32) (m_held : Nat → Int32) (m_text : Nat → Int32) (m_now : Nat → Int32) (m_kept : Nat → Int32) (a1 : Int32) (a2 : Int32) {res : (Nat → Int32)} (h : f_X6_swaps F m_now a1 a2 = some res) : CtV l D cI cS X yX6_swaps cX6_swaps 4 1 [.ref h_m, .int a1, .int a2] [(h_m, .inr (6, [.ref h_m_s, .ref h_m_past, .ref h_m_held, .int m_pasts, .int m_runs0, .ref h_m_text, .int m_typed, .ref h_m_now, .ref h_m_kept, .int m_spot, .int m_reason, .int m_cause, .int m_orders, .int m_kindNow, .int m_placeNow])), (h_m_s, .inl (cI, 116, .inl m_s)), (h_m_past, .inl (cI, 464, .inl m_past)), (h_m_held, .inl (cI, 116, .inl m_held)), (h_m_text, .inl (cI, 60, .inl m_text)), (h_m_now, .inl (cI, 10, .inl m_now)), (h_m_kept, .inl (cI, 16, .inl m_kept))] (PoV [(h_m, .inr (6, [.ref h_m_s, .ref h_m_past, .ref h_m_held, .int m_pasts, .int m_runs0, .ref h_m_text, .int m_typed, .ref h_m_now, .ref h_m_kept, .int m_spot, .int m_reason, .int m_cause, .int m_orders, .int m_kindNow, .int m_placeNow])), (h_m_s, .inl (cI, 116, .inl m_s)), (h_m_past, .inl (cI, 464, .inl m_past)), (h_m_held, .inl (cI, 116, .inl m_held)), (h_m_text, .inl (cI, 60, .inl m_text)), (h_m_now, .inl (cI, 10, .inl res)), (h_m_kept, .inl (cI, 16, .inl m_kept))]) := by
  refine CtV.of (by decide +kernel) rfl ?_
  intro p e s m below meth c A hc
  refine G_lv (lv' := [(0, .ref h_m), (1, .int a1), (2, .int a2)]) (lsame_cons rfl (lsame_cons rfl (lsame_cons rfl lsame_nil))) ?_
  unfold f_X6_swaps at h
  refine G_aload_n hc dX6_swaps_0 rfl ?_
  refine G_get hc f_X6_22 0 rfl rfl dX6_swaps_1 ?_
  refine G_iload_n hc dX6_swaps_4 rfl ?_
  obtain ⟨v1, i_v1, e_v1, h⟩ := rb h
  refine G_iald hc 5 rfl i_v1 e_v1 dX6_swaps_5 ?_
  refine G_istore_n (lv' := [(0, .ref h_m), (1, .int a1), (2, .int a2), (3, .int v1)]) hc dX6_swaps_6 rfl rfl ?_
  refine G_aload_n hc dX6_swaps_7 rfl ?_
  refine G_get hc f_X6_22 0 rfl rfl dX6_swaps_8 ?_
  refine G_iload_n hc dX6_swaps_11 rfl ?_
  refine G_aload_n hc dX6_swaps_12 rfl ?_
  refine G_get hc f_X6_22 0 rfl rfl dX6_swaps_13 ?_
  refine G_iload_n hc dX6_swaps_16 rfl ?_
  obtain ⟨v2, i_v2, e_v2, h⟩ := rb h
  refine G_iald hc 5 rfl i_v2 e_v2 dX6_swaps_17 ?_
  obtain ⟨v3, i_v3, e_v3, h⟩ := wb h
  refine G_iast (ws' := [(h_m, .inr (6, [.ref h_m_s, .ref h_m_past, .ref h_m_held, .int m_pasts, .int m_runs0, .ref h_m_text, .int m_typed, .ref h_m_now, .ref h_m_kept, .int m_spot, .int m_reason, .int m_cause, .int m_orders, .int m_kindNow, .int m_placeNow])), (h_m_s, .inl (cI, 116, .inl m_s)), (h_m_past, .inl (cI, 464, .inl m_past)), (h_m_held, .inl (cI, 116, .inl m_held)), (h_m_text, .inl (cI, 60, .inl m_text)), (h_m_now, .inl (cI, 10, .inl v3)), (h_m_kept, .inl (cI, 16, .inl m_kept))]) hc 5 rfl i_v3 e_v3 rfl dX6_swaps_18 ?_
  refine G_aload_n hc dX6_swaps_19 rfl ?_
  refine G_get hc f_X6_22 0 rfl rfl dX6_swaps_20 ?_
  refine G_iload_n hc dX6_swaps_23 rfl ?_
  refine G_iload_n hc dX6_swaps_24 rfl ?_
  obtain ⟨v4, i_v4, e_v4, h⟩ := wb h
  refine G_iast (ws' := [(h_m, .inr (6, [.ref h_m_s, .ref h_m_past, .ref h_m_held, .int m_pasts, .int m_runs0, .ref h_m_text, .int m_typed, .ref h_m_now, .ref h_m_kept, .int m_spot, .int m_reason, .int m_cause, .int m_orders, .int m_kindNow, .int m_placeNow])), (h_m_s, .inl (cI, 116, .inl m_s)), (h_m_past, .inl (cI, 464, .inl m_past)), (h_m_held, .inl (cI, 116, .inl m_held)), (h_m_text, .inl (cI, 60, .inl m_text)), (h_m_now, .inl (cI, 10, .inl v4)), (h_m_kept, .inl (cI, 16, .inl m_kept))]) hc 5 rfl i_v4 e_v4 rfl dX6_swaps_25 ?_
  have h := Option.some.inj h
  subst h
  exact G_return hc rfl dX6_swaps_26
set_option maxHeartbeats 4000000 in
set_option maxRecDepth 100000 in
theorem c_X6_goes (l : Launch) (D : va_G) (cI cS : ClassId) (X : XP) (F : Nat) (h_m h_m_s h_m_past h_m_held h_m_text h_m_now h_m_kept : Nat) (m_pasts : Int32) (m_runs0 : Int32) (m_typed : Int32) (m_spot : Int32) (m_reason : Int32) (m_cause : Int32) (m_orders : Int32) (m_kindNow : Int32) (m_placeNow : Int32) (m_s : Nat → Int32) (m_past : Nat → Int32) (m_held : Nat → Int32) (m_text : Nat → Int32) (m_now : Nat → Int32) (m_kept : Nat → Int32) {res : Int32 × (Nat → Int32)} (h : f_X6_goes F m_s m_now = some res) : CtI l D cI cS X yX6_goes cX6_goes 6 (some .boolean) 2 [.ref h_m] [(h_m, .inr (6, [.ref h_m_s, .ref h_m_past, .ref h_m_held, .int m_pasts, .int m_runs0, .ref h_m_text, .int m_typed, .ref h_m_now, .ref h_m_kept, .int m_spot, .int m_reason, .int m_cause, .int m_orders, .int m_kindNow, .int m_placeNow])), (h_m_s, .inl (cI, 116, .inl m_s)), (h_m_past, .inl (cI, 464, .inl m_past)), (h_m_held, .inl (cI, 116, .inl m_held)), (h_m_text, .inl (cI, 60, .inl m_text)), (h_m_now, .inl (cI, 10, .inl m_now)), (h_m_kept, .inl (cI, 16, .inl m_kept))] (PoI res.1 [(h_m, .inr (6, [.ref h_m_s, .ref h_m_past, .ref h_m_held, .int m_pasts, .int m_runs0, .ref h_m_text, .int m_typed, .ref h_m_now, .ref h_m_kept, .int m_spot, .int m_reason, .int m_cause, .int m_orders, .int m_kindNow, .int m_placeNow])), (h_m_s, .inl (cI, 116, .inl m_s)), (h_m_past, .inl (cI, 464, .inl m_past)), (h_m_held, .inl (cI, 116, .inl m_held)), (h_m_text, .inl (cI, 60, .inl m_text)), (h_m_now, .inl (cI, 10, .inl res.2)), (h_m_kept, .inl (cI, 16, .inl m_kept))]) := by
  refine CtI.of (by decide +kernel) rfl ?_
  intro p e s m below meth c A hc
  refine G_lv (lv' := [(0, .ref h_m)]) (lsame_cons rfl lsame_nil) ?_
  unfold f_X6_goes at h
  refine G_aload_n hc dX6_goes_0 rfl ?_
  refine G_get hc f_X6_7 0 rfl rfl dX6_goes_1 ?_
  refine G_iconst (v := 0) hc dX6_goes_4 (by decide) ?_
  obtain ⟨v1, i_v1, e_v1, h⟩ := rb h
  refine G_iald hc 1 rfl i_v1 e_v1 dX6_goes_5 ?_
  refine G_istore_n (lv' := [(0, .ref h_m), (1, .int v1)]) hc dX6_goes_6 rfl rfl ?_
  refine G_iload_n hc dX6_goes_7 rfl ?_
  refine G_iconst (v := 2) hc dX6_goes_8 (by decide) ?_
  refine G_isub hc dX6_goes_9 ?_
  obtain ⟨v2, e_v2, h⟩ := sb h
  refine G_top e_v2 ?_
  refine G_istore_n (lv' := [(0, .ref h_m), (1, .int v1), (2, .int v2)]) hc dX6_goes_10 rfl rfl ?_
  obtain ⟨e4, hl5, h⟩ := ob h
  have hK9 : G p l e (rmk 2) s m [.ref h_m].toArray below meth c D A 6 0 0 (QI below [.ref h_m].toArray s D A (PoI res.1 [(h_m, .inr (6, [.ref h_m_s, .ref h_m_past, .ref h_m_held, .int m_pasts, .int m_runs0, .ref h_m_text, .int m_typed, .ref h_m_now, .ref h_m_kept, .int m_spot, .int m_reason, .int m_cause, .int m_orders, .int m_kindNow, .int m_placeNow])), (h_m_s, .inl (cI, 116, .inl m_s)), (h_m_past, .inl (cI, 464, .inl m_past)), (h_m_held, .inl (cI, 116, .inl m_held)), (h_m_text, .inl (cI, 60, .inl m_text)), (h_m_now, .inl (cI, 10, .inl res.2)), (h_m_kept, .inl (cI, 16, .inl m_kept))])) [(h_m, .inr (6, [.ref h_m_s, .ref h_m_past, .ref h_m_held, .int m_pasts, .int m_runs0, .ref h_m_text, .int m_typed, .ref h_m_now, .ref h_m_kept, .int m_spot, .int m_reason, .int m_cause, .int m_orders, .int m_kindNow, .int m_placeNow])), (h_m_s, .inl (cI, 116, .inl m_s)), (h_m_past, .inl (cI, 464, .inl m_past)), (h_m_held, .inl (cI, 116, .inl m_held)), (h_m_text, .inl (cI, 60, .inl m_text)), (h_m_now, .inl (cI, 10, .inl m_now)), (h_m_kept, .inl (cI, 16, .inl m_kept))] [(0, .ref h_m), (1, .int v1), (2, .int e4)] 38 [] := by
    refine G_iload_n hc dX6_goes_38 rfl ?_
    refine G_if_ge (tgt := 44) hc dX6_goes_39 (by decide) (fun c45 => ?_) (fun c45 => ?_)
    · have h := ip h c45
      refine G_iload_n hc dX6_goes_44 rfl ?_
      refine G_iconst (v := 1) hc dX6_goes_45 (by decide) ?_
      refine G_isub hc dX6_goes_46 ?_
      obtain ⟨v15, e_v15, h⟩ := sb h
      refine G_top e_v15 ?_
      refine G_istore_n (lv' := [(0, .ref h_m), (1, .int v1), (2, .int e4), (3, .int v15)]) hc dX6_goes_47 rfl rfl ?_
      obtain ⟨e17, hl18, h⟩ := ob h
      have hK22 : G p l e (rmk 2) s m [.ref h_m].toArray below meth c D A 6 0 0 (QI below [.ref h_m].toArray s D A (PoI res.1 [(h_m, .inr (6, [.ref h_m_s, .ref h_m_past, .ref h_m_held, .int m_pasts, .int m_runs0, .ref h_m_text, .int m_typed, .ref h_m_now, .ref h_m_kept, .int m_spot, .int m_reason, .int m_cause, .int m_orders, .int m_kindNow, .int m_placeNow])), (h_m_s, .inl (cI, 116, .inl m_s)), (h_m_past, .inl (cI, 464, .inl m_past)), (h_m_held, .inl (cI, 116, .inl m_held)), (h_m_text, .inl (cI, 60, .inl m_text)), (h_m_now, .inl (cI, 10, .inl res.2)), (h_m_kept, .inl (cI, 16, .inl m_kept))])) [(h_m, .inr (6, [.ref h_m_s, .ref h_m_past, .ref h_m_held, .int m_pasts, .int m_runs0, .ref h_m_text, .int m_typed, .ref h_m_now, .ref h_m_kept, .int m_spot, .int m_reason, .int m_cause, .int m_orders, .int m_kindNow, .int m_placeNow])), (h_m_s, .inl (cI, 116, .inl m_s)), (h_m_past, .inl (cI, 464, .inl m_past)), (h_m_held, .inl (cI, 116, .inl m_held)), (h_m_text, .inl (cI, 60, .inl m_text)), (h_m_now, .inl (cI, 10, .inl m_now)), (h_m_kept, .inl (cI, 16, .inl m_kept))] [(0, .ref h_m), (1, .int v1), (2, .int e4), (3, .int e17)] 69 [] := by
        refine G_aload_n hc dX6_goes_69 rfl ?_
        refine G_iload_n hc dX6_goes_70 rfl ?_
        refine G_iload_n hc dX6_goes_71 rfl ?_
        obtain ⟨z27, hu28, h⟩ := ob h
        refine G_callVV (ws2 := [(h_m, .inr (6, [.ref h_m_s, .ref h_m_past, .ref h_m_held, .int m_pasts, .int m_runs0, .ref h_m_text, .int m_typed, .ref h_m_now, .ref h_m_kept, .int m_spot, .int m_reason, .int m_cause, .int m_orders, .int m_kindNow, .int m_placeNow])), (h_m_s, .inl (cI, 116, .inl m_s)), (h_m_past, .inl (cI, 464, .inl m_past)), (h_m_held, .inl (cI, 116, .inl m_held)), (h_m_text, .inl (cI, 60, .inl m_text)), (h_m_now, .inl (cI, 10, .inl z27)), (h_m_kept, .inl (cI, 16, .inl m_kept))]) hc m_X6_66 (c_X6_swaps l D cI cS X F h_m h_m_s h_m_past h_m_held h_m_text h_m_now h_m_kept m_pasts m_runs0 m_typed m_spot m_reason m_cause m_orders m_kindNow m_placeNow m_s m_past m_held m_text m_now m_kept e4 e17 hu28) 0 [0, 1, 2, 3, 4, 5, 6] rfl rfl (rmok_of (Nat.le_of_ble_eq_true rfl)) ⟨Nat.zero_le _, Nat.zero_le _⟩ rfl rfl rfl rfl rfl ⟨rfl, rfl, rfl⟩ dX6_goes_72 ?_
        refine G_iload_n hc dX6_goes_75 rfl ?_
        refine G_iconst (v := 1) hc dX6_goes_76 (by decide) ?_
        refine G_iadd hc dX6_goes_77 ?_
        obtain ⟨v29, e_v29, h⟩ := sb h
        refine G_top e_v29 ?_
        refine G_istore (lv' := [(0, .ref h_m), (1, .int v1), (2, .int e4), (3, .int e17), (4, .int v29)]) hc dX6_goes_78 rfl rfl ?_
        refine G_iload_n hc dX6_goes_80 rfl ?_
        refine G_iconst (v := 1) hc dX6_goes_81 (by decide) ?_
        refine G_isub hc dX6_goes_82 ?_
        obtain ⟨v30, e_v30, h⟩ := sb h
        refine G_top e_v30 ?_
        refine G_istore (lv' := [(0, .ref h_m), (1, .int v1), (2, .int e4), (3, .int e17), (4, .int v29), (5, .int v30)]) hc dX6_goes_83 rfl rfl ?_
        obtain ⟨e34, hl35, h⟩ := ob h
        have hK39 : G p l e (rmk 2) s m [.ref h_m].toArray below meth c D A 6 0 0 (QI below [.ref h_m].toArray s D A (PoI res.1 [(h_m, .inr (6, [.ref h_m_s, .ref h_m_past, .ref h_m_held, .int m_pasts, .int m_runs0, .ref h_m_text, .int m_typed, .ref h_m_now, .ref h_m_kept, .int m_spot, .int m_reason, .int m_cause, .int m_orders, .int m_kindNow, .int m_placeNow])), (h_m_s, .inl (cI, 116, .inl m_s)), (h_m_past, .inl (cI, 464, .inl m_past)), (h_m_held, .inl (cI, 116, .inl m_held)), (h_m_text, .inl (cI, 60, .inl m_text)), (h_m_now, .inl (cI, 10, .inl res.2)), (h_m_kept, .inl (cI, 16, .inl m_kept))])) [(h_m, .inr (6, [.ref h_m_s, .ref h_m_past, .ref h_m_held, .int m_pasts, .int m_runs0, .ref h_m_text, .int m_typed, .ref h_m_now, .ref h_m_kept, .int m_spot, .int m_reason, .int m_cause, .int m_orders, .int m_kindNow, .int m_placeNow])), (h_m_s, .inl (cI, 116, .inl m_s)), (h_m_past, .inl (cI, 464, .inl m_past)), (h_m_held, .inl (cI, 116, .inl m_held)), (h_m_text, .inl (cI, 60, .inl m_text)), (h_m_now, .inl (cI, 10, .inl e34)), (h_m_kept, .inl (cI, 16, .inl m_kept))] [] 109 [] := by
          refine G_iconst (v := 1) hc dX6_goes_109 (by decide) ?_
          have h := Option.some.inj h
          subst h
          exact G_zreturn hc (by decide) ⟨rfl, rfl⟩ dX6_goes_110
        clear h
        have hL36 : ∀ (n37 : Nat) (u31 : Int32) (u32 : Int32) (u33 : Nat → Int32), f_X6_goes_L85 F  n37 u31 u32 u33 = some e34 → G p l e (rmk 2) s m [.ref h_m].toArray below meth c D A 6 0 0 (QI below [.ref h_m].toArray s D A (PoI res.1 [(h_m, .inr (6, [.ref h_m_s, .ref h_m_past, .ref h_m_held, .int m_pasts, .int m_runs0, .ref h_m_text, .int m_typed, .ref h_m_now, .ref h_m_kept, .int m_spot, .int m_reason, .int m_cause, .int m_orders, .int m_kindNow, .int m_placeNow])), (h_m_s, .inl (cI, 116, .inl m_s)), (h_m_past, .inl (cI, 464, .inl m_past)), (h_m_held, .inl (cI, 116, .inl m_held)), (h_m_text, .inl (cI, 60, .inl m_text)), (h_m_now, .inl (cI, 10, .inl res.2)), (h_m_kept, .inl (cI, 16, .inl m_kept))])) [(h_m, .inr (6, [.ref h_m_s, .ref h_m_past, .ref h_m_held, .int m_pasts, .int m_runs0, .ref h_m_text, .int m_typed, .ref h_m_now, .ref h_m_kept, .int m_spot, .int m_reason, .int m_cause, .int m_orders, .int m_kindNow, .int m_placeNow])), (h_m_s, .inl (cI, 116, .inl m_s)), (h_m_past, .inl (cI, 464, .inl m_past)), (h_m_held, .inl (cI, 116, .inl m_held)), (h_m_text, .inl (cI, 60, .inl m_text)), (h_m_now, .inl (cI, 10, .inl u33)), (h_m_kept, .inl (cI, 16, .inl m_kept))] [(0, .ref h_m), (4, .int u31), (5, .int u32)] 85 [] := by
          intro n37
          induction n37 with
          | zero =>
            intro u31 u32 u33 h
            exact nz h
          | succ n37 ih38 =>
            intro u31 u32 u33 h
            rw [f_X6_goes_L85] at h
            refine G_iload hc dX6_goes_85 rfl ?_
            refine G_iload hc dX6_goes_87 rfl ?_
            refine G_icmp_ge (tgt := 109) hc dX6_goes_89 (by decide) (fun c44 => ?_) (fun c44 => ?_)
            · have h := ip h c44
              have h := Option.some.inj h
              subst h
              refine G_lv (lv' := []) lsame_nil ?_
              exact hK39
            · have h := inn h c44
              refine G_aload_n hc dX6_goes_92 rfl ?_
              refine G_iload hc dX6_goes_93 rfl ?_
              refine G_iload hc dX6_goes_95 rfl ?_
              obtain ⟨z40, hu41, h⟩ := ob h
              refine G_callVV (ws2 := [(h_m, .inr (6, [.ref h_m_s, .ref h_m_past, .ref h_m_held, .int m_pasts, .int m_runs0, .ref h_m_text, .int m_typed, .ref h_m_now, .ref h_m_kept, .int m_spot, .int m_reason, .int m_cause, .int m_orders, .int m_kindNow, .int m_placeNow])), (h_m_s, .inl (cI, 116, .inl m_s)), (h_m_past, .inl (cI, 464, .inl m_past)), (h_m_held, .inl (cI, 116, .inl m_held)), (h_m_text, .inl (cI, 60, .inl m_text)), (h_m_now, .inl (cI, 10, .inl z40)), (h_m_kept, .inl (cI, 16, .inl m_kept))]) hc m_X6_66 (c_X6_swaps l D cI cS X F h_m h_m_s h_m_past h_m_held h_m_text h_m_now h_m_kept m_pasts m_runs0 m_typed m_spot m_reason m_cause m_orders m_kindNow m_placeNow m_s m_past m_held m_text u33 m_kept u31 u32 hu41) 0 [0, 1, 2, 3, 4, 5, 6] rfl rfl (rmok_of (Nat.le_of_ble_eq_true rfl)) ⟨Nat.zero_le _, Nat.zero_le _⟩ rfl rfl rfl rfl rfl ⟨rfl, rfl, rfl⟩ dX6_goes_97 ?_
              obtain ⟨v42, e_v42, h⟩ := sb h
              refine G_iinc (v := v42) (lv' := [(0, .ref h_m), (4, .int v42), (5, .int u32)]) hc dX6_goes_100 rfl (e_v42.trans rfl) rfl rfl ?_
              obtain ⟨v43, e_v43, h⟩ := sb h
              refine G_iinc (v := v43) (lv' := [(0, .ref h_m), (4, .int v42), (5, .int v43)]) hc dX6_goes_103 rfl (e_v43.trans rfl) rfl rfl ?_
              refine G_goto (tgt := 85) hc dX6_goes_106 (by decide) ?_
              refine G_lv (lv' := [(0, .ref h_m), (4, .int v42), (5, .int v43)]) (lsame_cons rfl (lsame_cons rfl (lsame_cons rfl lsame_nil))) ?_
              exact ih38 _ _ _ h
        refine G_lv (lv' := [(0, .ref h_m), (4, .int v29), (5, .int v30)]) (lsame_cons rfl (lsame_cons rfl (lsame_cons rfl lsame_nil))) ?_
        exact hL36 F _ _ _ hl35
      clear h
      have hL19 : ∀ (n20 : Nat) (u16 : Int32), f_X6_goes_L48 F m_now e4 n20 u16 = some e17 → G p l e (rmk 2) s m [.ref h_m].toArray below meth c D A 6 0 0 (QI below [.ref h_m].toArray s D A (PoI res.1 [(h_m, .inr (6, [.ref h_m_s, .ref h_m_past, .ref h_m_held, .int m_pasts, .int m_runs0, .ref h_m_text, .int m_typed, .ref h_m_now, .ref h_m_kept, .int m_spot, .int m_reason, .int m_cause, .int m_orders, .int m_kindNow, .int m_placeNow])), (h_m_s, .inl (cI, 116, .inl m_s)), (h_m_past, .inl (cI, 464, .inl m_past)), (h_m_held, .inl (cI, 116, .inl m_held)), (h_m_text, .inl (cI, 60, .inl m_text)), (h_m_now, .inl (cI, 10, .inl res.2)), (h_m_kept, .inl (cI, 16, .inl m_kept))])) [(h_m, .inr (6, [.ref h_m_s, .ref h_m_past, .ref h_m_held, .int m_pasts, .int m_runs0, .ref h_m_text, .int m_typed, .ref h_m_now, .ref h_m_kept, .int m_spot, .int m_reason, .int m_cause, .int m_orders, .int m_kindNow, .int m_placeNow])), (h_m_s, .inl (cI, 116, .inl m_s)), (h_m_past, .inl (cI, 464, .inl m_past)), (h_m_held, .inl (cI, 116, .inl m_held)), (h_m_text, .inl (cI, 60, .inl m_text)), (h_m_now, .inl (cI, 10, .inl m_now)), (h_m_kept, .inl (cI, 16, .inl m_kept))] [(0, .ref h_m), (1, .int v1), (2, .int e4), (3, .int u16)] 48 [] := by
        intro n20
        induction n20 with
        | zero =>
          intro u16 h
          exact nz h
        | succ n20 ih21 =>
          intro u16 h
          rw [f_X6_goes_L48] at h
          refine G_aload_n hc dX6_goes_48 rfl ?_
          refine G_get hc f_X6_22 0 rfl rfl dX6_goes_49 ?_
          refine G_iload_n hc dX6_goes_52 rfl ?_
          obtain ⟨v23, i_v23, e_v23, h⟩ := rb h
          refine G_iald hc 5 rfl i_v23 e_v23 dX6_goes_53 ?_
          refine G_aload_n hc dX6_goes_54 rfl ?_
          refine G_get hc f_X6_22 0 rfl rfl dX6_goes_55 ?_
          refine G_iload_n hc dX6_goes_58 rfl ?_
          obtain ⟨v24, i_v24, e_v24, h⟩ := rb h
          refine G_iald hc 5 rfl i_v24 e_v24 dX6_goes_59 ?_
          refine G_icmp_gt (tgt := 69) hc dX6_goes_60 (by decide) (fun c26 => ?_) (fun c26 => ?_)
          · have h := ip h c26
            have h := Option.some.inj h
            subst h
            refine G_lv (lv' := [(0, .ref h_m), (1, .int v1), (2, .int e4), (3, .int u16)]) (lsame_cons rfl (lsame_cons rfl (lsame_cons rfl (lsame_cons rfl lsame_nil)))) ?_
            exact hK22
          · have h := inn h c26
            obtain ⟨v25, e_v25, h⟩ := sb h
            refine G_iinc (v := v25) (lv' := [(0, .ref h_m), (1, .int v1), (2, .int e4), (3, .int v25)]) hc dX6_goes_63 rfl (e_v25.trans rfl) rfl rfl ?_
            refine G_goto (tgt := 48) hc dX6_goes_66 (by decide) ?_
            refine G_lv (lv' := [(0, .ref h_m), (1, .int v1), (2, .int e4), (3, .int v25)]) (lsame_cons rfl (lsame_cons rfl (lsame_cons rfl (lsame_cons rfl lsame_nil)))) ?_
            exact ih21 _ h
      refine G_lv (lv' := [(0, .ref h_m), (1, .int v1), (2, .int e4), (3, .int v15)]) (lsame_cons rfl (lsame_cons rfl (lsame_cons rfl (lsame_cons rfl lsame_nil)))) ?_
      exact hL19 F _ hl18
    · have h := inn h c45
      refine G_iconst (v := 0) hc dX6_goes_42 (by decide) ?_
      have h := Option.some.inj h
      subst h
      exact G_zreturn hc (by decide) ⟨rfl, rfl⟩ dX6_goes_43
  clear h
  have hL6 : ∀ (n7 : Nat) (u3 : Int32), f_X6_goes_L11 F m_now n7 u3 = some e4 → G p l e (rmk 2) s m [.ref h_m].toArray below meth c D A 6 0 0 (QI below [.ref h_m].toArray s D A (PoI res.1 [(h_m, .inr (6, [.ref h_m_s, .ref h_m_past, .ref h_m_held, .int m_pasts, .int m_runs0, .ref h_m_text, .int m_typed, .ref h_m_now, .ref h_m_kept, .int m_spot, .int m_reason, .int m_cause, .int m_orders, .int m_kindNow, .int m_placeNow])), (h_m_s, .inl (cI, 116, .inl m_s)), (h_m_past, .inl (cI, 464, .inl m_past)), (h_m_held, .inl (cI, 116, .inl m_held)), (h_m_text, .inl (cI, 60, .inl m_text)), (h_m_now, .inl (cI, 10, .inl res.2)), (h_m_kept, .inl (cI, 16, .inl m_kept))])) [(h_m, .inr (6, [.ref h_m_s, .ref h_m_past, .ref h_m_held, .int m_pasts, .int m_runs0, .ref h_m_text, .int m_typed, .ref h_m_now, .ref h_m_kept, .int m_spot, .int m_reason, .int m_cause, .int m_orders, .int m_kindNow, .int m_placeNow])), (h_m_s, .inl (cI, 116, .inl m_s)), (h_m_past, .inl (cI, 464, .inl m_past)), (h_m_held, .inl (cI, 116, .inl m_held)), (h_m_text, .inl (cI, 60, .inl m_text)), (h_m_now, .inl (cI, 10, .inl m_now)), (h_m_kept, .inl (cI, 16, .inl m_kept))] [(0, .ref h_m), (1, .int v1), (2, .int u3)] 11 [] := by
    intro n7
    induction n7 with
    | zero =>
      intro u3 h
      exact nz h
    | succ n7 ih8 =>
      intro u3 h
      rw [f_X6_goes_L11] at h
      refine G_iload_n hc dX6_goes_11 rfl ?_
      refine G_if_lt (tgt := 38) hc dX6_goes_12 (by decide) (fun c14 => ?_) (fun c14 => ?_)
      · have h := ip h c14
        have h := Option.some.inj h
        subst h
        refine G_lv (lv' := [(0, .ref h_m), (1, .int v1), (2, .int u3)]) (lsame_cons rfl (lsame_cons rfl (lsame_cons rfl lsame_nil))) ?_
        exact hK9
      · have h := inn h c14
        refine G_aload_n hc dX6_goes_15 rfl ?_
        refine G_get hc f_X6_22 0 rfl rfl dX6_goes_16 ?_
        refine G_iload_n hc dX6_goes_19 rfl ?_
        obtain ⟨v10, i_v10, e_v10, h⟩ := rb h
        refine G_iald hc 5 rfl i_v10 e_v10 dX6_goes_20 ?_
        refine G_aload_n hc dX6_goes_21 rfl ?_
        refine G_get hc f_X6_22 0 rfl rfl dX6_goes_22 ?_
        refine G_iload_n hc dX6_goes_25 rfl ?_
        refine G_iconst (v := 1) hc dX6_goes_26 (by decide) ?_
        refine G_iadd hc dX6_goes_27 ?_
        obtain ⟨v11, i_v11, e_v11, h⟩ := rb h
        refine G_iald hc 5 rfl i_v11 e_v11 dX6_goes_28 ?_
        refine G_icmp_lt (tgt := 38) hc dX6_goes_29 (by decide) (fun c13 => ?_) (fun c13 => ?_)
        · have h := ip h c13
          have h := Option.some.inj h
          subst h
          refine G_lv (lv' := [(0, .ref h_m), (1, .int v1), (2, .int u3)]) (lsame_cons rfl (lsame_cons rfl (lsame_cons rfl lsame_nil))) ?_
          exact hK9
        · have h := inn h c13
          obtain ⟨v12, e_v12, h⟩ := sb h
          refine G_iinc (v := v12) (lv' := [(0, .ref h_m), (1, .int v1), (2, .int v12)]) hc dX6_goes_32 rfl (e_v12.trans rfl) rfl rfl ?_
          refine G_goto (tgt := 11) hc dX6_goes_35 (by decide) ?_
          refine G_lv (lv' := [(0, .ref h_m), (1, .int v1), (2, .int v12)]) (lsame_cons rfl (lsame_cons rfl (lsame_cons rfl lsame_nil))) ?_
          exact ih8 _ h
  refine G_lv (lv' := [(0, .ref h_m), (1, .int v1), (2, .int v2)]) (lsame_cons rfl (lsame_cons rfl (lsame_cons rfl lsame_nil))) ?_
  exact hL6 F _ hl5
set_option maxHeartbeats 4000000 in
set_option maxRecDepth 100000 in
theorem c_X6_keepsPairs (l : Launch) (D : va_G) (cI cS : ClassId) (X : XP) (F : Nat) (h_m h_m_s h_m_past h_m_held h_m_text h_m_now h_m_kept : Nat) (m_pasts : Int32) (m_runs0 : Int32) (m_typed : Int32) (m_spot : Int32) (m_reason : Int32) (m_cause : Int32) (m_orders : Int32) (m_kindNow : Int32) (m_placeNow : Int32) (m_s : Nat → Int32) (m_past : Nat → Int32) (m_held : Nat → Int32) (m_text : Nat → Int32) (m_now : Nat → Int32) (m_kept : Nat → Int32) {res : Int32} (h : f_X6_keepsPairs F m_s m_now m_kept = some res) : CtI l D cI cS X yX6_keepsPairs cX6_keepsPairs 3 (some .boolean) 2 [.ref h_m] [(h_m, .inr (6, [.ref h_m_s, .ref h_m_past, .ref h_m_held, .int m_pasts, .int m_runs0, .ref h_m_text, .int m_typed, .ref h_m_now, .ref h_m_kept, .int m_spot, .int m_reason, .int m_cause, .int m_orders, .int m_kindNow, .int m_placeNow])), (h_m_s, .inl (cI, 116, .inl m_s)), (h_m_past, .inl (cI, 464, .inl m_past)), (h_m_held, .inl (cI, 116, .inl m_held)), (h_m_text, .inl (cI, 60, .inl m_text)), (h_m_now, .inl (cI, 10, .inl m_now)), (h_m_kept, .inl (cI, 16, .inl m_kept))] (PoI res [(h_m, .inr (6, [.ref h_m_s, .ref h_m_past, .ref h_m_held, .int m_pasts, .int m_runs0, .ref h_m_text, .int m_typed, .ref h_m_now, .ref h_m_kept, .int m_spot, .int m_reason, .int m_cause, .int m_orders, .int m_kindNow, .int m_placeNow])), (h_m_s, .inl (cI, 116, .inl m_s)), (h_m_past, .inl (cI, 464, .inl m_past)), (h_m_held, .inl (cI, 116, .inl m_held)), (h_m_text, .inl (cI, 60, .inl m_text)), (h_m_now, .inl (cI, 10, .inl m_now)), (h_m_kept, .inl (cI, 16, .inl m_kept))]) := by
  refine CtI.of (by decide +kernel) rfl ?_
  intro p e s m below meth c A hc
  refine G_lv (lv' := [(0, .ref h_m)]) (lsame_cons rfl lsame_nil) ?_
  unfold f_X6_keepsPairs at h
  refine G_iconst (v := 1) hc dX6_keepsPairs_0 (by decide) ?_
  refine G_istore_n (lv' := [(0, .ref h_m), (1, .int (1 : Int32))]) hc dX6_keepsPairs_1 rfl rfl ?_
  refine G_iconst (v := 0) hc dX6_keepsPairs_2 (by decide) ?_
  refine G_istore_n (lv' := [(0, .ref h_m), (1, .int (1 : Int32)), (2, .int (0 : Int32))]) hc dX6_keepsPairs_3 rfl rfl ?_
  obtain ⟨e3, hl4, h⟩ := ob h
  have hK8 : G p l e (rmk 2) s m [.ref h_m].toArray below meth c D A 3 0 0 (QI below [.ref h_m].toArray s D A (PoI res [(h_m, .inr (6, [.ref h_m_s, .ref h_m_past, .ref h_m_held, .int m_pasts, .int m_runs0, .ref h_m_text, .int m_typed, .ref h_m_now, .ref h_m_kept, .int m_spot, .int m_reason, .int m_cause, .int m_orders, .int m_kindNow, .int m_placeNow])), (h_m_s, .inl (cI, 116, .inl m_s)), (h_m_past, .inl (cI, 464, .inl m_past)), (h_m_held, .inl (cI, 116, .inl m_held)), (h_m_text, .inl (cI, 60, .inl m_text)), (h_m_now, .inl (cI, 10, .inl m_now)), (h_m_kept, .inl (cI, 16, .inl m_kept))])) [(h_m, .inr (6, [.ref h_m_s, .ref h_m_past, .ref h_m_held, .int m_pasts, .int m_runs0, .ref h_m_text, .int m_typed, .ref h_m_now, .ref h_m_kept, .int m_spot, .int m_reason, .int m_cause, .int m_orders, .int m_kindNow, .int m_placeNow])), (h_m_s, .inl (cI, 116, .inl m_s)), (h_m_past, .inl (cI, 464, .inl m_past)), (h_m_held, .inl (cI, 116, .inl m_held)), (h_m_text, .inl (cI, 60, .inl m_text)), (h_m_now, .inl (cI, 10, .inl m_now)), (h_m_kept, .inl (cI, 16, .inl m_kept))] [(1, .int e3)] 50 [] := by
    refine G_iload_n hc dX6_keepsPairs_50 rfl ?_
    obtain ⟨hz20, h⟩ := zb h
    have h := Option.some.inj h
    subst h
    exact G_zreturn hc hz20 ⟨rfl, rfl⟩ dX6_keepsPairs_51
  clear h
  have hL5 : ∀ (n6 : Nat) (u1 : Int32) (u2 : Int32), f_X6_keepsPairs_L4 F m_s m_now m_kept n6 u1 u2 = some e3 → G p l e (rmk 2) s m [.ref h_m].toArray below meth c D A 3 0 0 (QI below [.ref h_m].toArray s D A (PoI res [(h_m, .inr (6, [.ref h_m_s, .ref h_m_past, .ref h_m_held, .int m_pasts, .int m_runs0, .ref h_m_text, .int m_typed, .ref h_m_now, .ref h_m_kept, .int m_spot, .int m_reason, .int m_cause, .int m_orders, .int m_kindNow, .int m_placeNow])), (h_m_s, .inl (cI, 116, .inl m_s)), (h_m_past, .inl (cI, 464, .inl m_past)), (h_m_held, .inl (cI, 116, .inl m_held)), (h_m_text, .inl (cI, 60, .inl m_text)), (h_m_now, .inl (cI, 10, .inl m_now)), (h_m_kept, .inl (cI, 16, .inl m_kept))])) [(h_m, .inr (6, [.ref h_m_s, .ref h_m_past, .ref h_m_held, .int m_pasts, .int m_runs0, .ref h_m_text, .int m_typed, .ref h_m_now, .ref h_m_kept, .int m_spot, .int m_reason, .int m_cause, .int m_orders, .int m_kindNow, .int m_placeNow])), (h_m_s, .inl (cI, 116, .inl m_s)), (h_m_past, .inl (cI, 464, .inl m_past)), (h_m_held, .inl (cI, 116, .inl m_held)), (h_m_text, .inl (cI, 60, .inl m_text)), (h_m_now, .inl (cI, 10, .inl m_now)), (h_m_kept, .inl (cI, 16, .inl m_kept))] [(0, .ref h_m), (1, .int u1), (2, .int u2)] 4 [] := by
    intro n6
    induction n6 with
    | zero =>
      intro u1 u2 h
      exact nz h
    | succ n6 ih7 =>
      intro u1 u2 h
      rw [f_X6_keepsPairs_L4] at h
      refine G_iload_n hc dX6_keepsPairs_4 rfl ?_
      refine G_bipush (v := 16) hc dX6_keepsPairs_5 (by decide) ?_
      refine G_icmp_ge (tgt := 50) hc dX6_keepsPairs_7 (by decide) (fun c19 => ?_) (fun c19 => ?_)
      · have h := ip h c19
        have h := Option.some.inj h
        subst h
        refine G_lv (lv' := [(1, .int u1)]) (lsame_cons rfl lsame_nil) ?_
        exact hK8
      · have h := inn h c19
        refine G_iload_n hc dX6_keepsPairs_10 rfl ?_
        refine G_if_eq (tgt := 50) hc dX6_keepsPairs_11 (by decide) (fun c18 => ?_) (fun c18 => ?_)
        · have h := ip h c18
          have h := Option.some.inj h
          subst h
          refine G_lv (lv' := [(1, .int u1)]) (lsame_cons rfl lsame_nil) ?_
          exact hK8
        · have h := inn h c18
          refine G_aload_n hc dX6_keepsPairs_14 rfl ?_
          refine G_get hc f_X6_22 0 rfl rfl dX6_keepsPairs_15 ?_
          refine G_iconst (v := 0) hc dX6_keepsPairs_18 (by decide) ?_
          refine G_aload_n hc dX6_keepsPairs_19 rfl ?_
          refine G_get hc f_X6_7 0 rfl rfl dX6_keepsPairs_20 ?_
          refine G_iconst (v := 0) hc dX6_keepsPairs_23 (by decide) ?_
          obtain ⟨v9, i_v9, e_v9, h⟩ := rb h
          refine G_iald hc 1 rfl i_v9 e_v9 dX6_keepsPairs_24 ?_
          refine G_iload_n hc dX6_keepsPairs_25 rfl ?_
          obtain ⟨z10, hu11, h⟩ := ob h
          refine G_callSI (ws2 := [(h_m, .inr (6, [.ref h_m_s, .ref h_m_past, .ref h_m_held, .int m_pasts, .int m_runs0, .ref h_m_text, .int m_typed, .ref h_m_now, .ref h_m_kept, .int m_spot, .int m_reason, .int m_cause, .int m_orders, .int m_kindNow, .int m_placeNow])), (h_m_s, .inl (cI, 116, .inl m_s)), (h_m_past, .inl (cI, 464, .inl m_past)), (h_m_held, .inl (cI, 116, .inl m_held)), (h_m_text, .inl (cI, 60, .inl m_text)), (h_m_now, .inl (cI, 10, .inl m_now)), (h_m_kept, .inl (cI, 16, .inl m_kept))]) hc m_X6_51 (c_X6_often l D cI cS X F h_m_now 10 m_now (0 : Int32) v9 u2 hu11) [5] (rmok_of (Nat.le_of_ble_eq_true rfl)) ⟨Nat.zero_le _, Nat.zero_le _⟩ rfl rfl rfl rfl rfl ⟨rfl, rfl, rfl⟩ dX6_keepsPairs_26 ?_
          refine G_aload_n hc dX6_keepsPairs_29 rfl ?_
          refine G_get hc f_X6_25 0 rfl rfl dX6_keepsPairs_30 ?_
          refine G_iload_n hc dX6_keepsPairs_33 rfl ?_
          obtain ⟨v12, i_v12, e_v12, h⟩ := rb h
          refine G_iald hc 6 rfl i_v12 e_v12 dX6_keepsPairs_34 ?_
          obtain ⟨t13, hr15, h⟩ := ob h
          have hj14 : G p l e (rmk 2) s m [.ref h_m].toArray below meth c D A 3 0 0 (QI below [.ref h_m].toArray s D A (PoI res [(h_m, .inr (6, [.ref h_m_s, .ref h_m_past, .ref h_m_held, .int m_pasts, .int m_runs0, .ref h_m_text, .int m_typed, .ref h_m_now, .ref h_m_kept, .int m_spot, .int m_reason, .int m_cause, .int m_orders, .int m_kindNow, .int m_placeNow])), (h_m_s, .inl (cI, 116, .inl m_s)), (h_m_past, .inl (cI, 464, .inl m_past)), (h_m_held, .inl (cI, 116, .inl m_held)), (h_m_text, .inl (cI, 60, .inl m_text)), (h_m_now, .inl (cI, 10, .inl m_now)), (h_m_kept, .inl (cI, 16, .inl m_kept))])) [(h_m, .inr (6, [.ref h_m_s, .ref h_m_past, .ref h_m_held, .int m_pasts, .int m_runs0, .ref h_m_text, .int m_typed, .ref h_m_now, .ref h_m_kept, .int m_spot, .int m_reason, .int m_cause, .int m_orders, .int m_kindNow, .int m_placeNow])), (h_m_s, .inl (cI, 116, .inl m_s)), (h_m_past, .inl (cI, 464, .inl m_past)), (h_m_held, .inl (cI, 116, .inl m_held)), (h_m_text, .inl (cI, 60, .inl m_text)), (h_m_now, .inl (cI, 10, .inl m_now)), (h_m_kept, .inl (cI, 16, .inl m_kept))] [(0, .ref h_m), (2, .int u2)] 43 [.int t13] := by
            refine G_istore_n (lv' := [(0, .ref h_m), (2, .int u2), (1, .int t13)]) hc dX6_keepsPairs_43 rfl rfl ?_
            obtain ⟨v17, e_v17, h⟩ := sb h
            refine G_iinc (v := v17) (lv' := [(0, .ref h_m), (2, .int v17), (1, .int t13)]) hc dX6_keepsPairs_44 rfl (e_v17.trans rfl) rfl rfl ?_
            refine G_goto (tgt := 4) hc dX6_keepsPairs_47 (by decide) ?_
            refine G_lv (lv' := [(0, .ref h_m), (1, .int t13), (2, .int v17)]) (lsame_cons rfl (lsame_cons rfl (lsame_cons rfl lsame_nil))) ?_
            exact ih7 _ _ h
          clear h
          have h := hr15
          clear hr15
          refine G_icmp_ne (tgt := 42) hc dX6_keepsPairs_35 (by decide) (fun c16 => ?_) (fun c16 => ?_)
          · have h := inn h c16
            refine G_iconst (v := 0) hc dX6_keepsPairs_42 (by decide) ?_
            have h := Option.some.inj h
            subst h
            refine G_lv (lv' := [(0, .ref h_m), (2, .int u2)]) (lsame_cons rfl (lsame_cons rfl lsame_nil)) ?_
            exact hj14
          · have h := ip h c16
            refine G_iconst (v := 1) hc dX6_keepsPairs_38 (by decide) ?_
            refine G_goto (tgt := 43) hc dX6_keepsPairs_39 (by decide) ?_
            have h := Option.some.inj h
            subst h
            refine G_lv (lv' := [(0, .ref h_m), (2, .int u2)]) (lsame_cons rfl (lsame_cons rfl lsame_nil)) ?_
            exact hj14
  refine G_lv (lv' := [(0, .ref h_m), (1, .int (1 : Int32)), (2, .int (0 : Int32))]) (lsame_cons rfl (lsame_cons rfl (lsame_cons rfl lsame_nil))) ?_
  exact hL5 F _ _ hl4
set_option maxHeartbeats 4000000 in
set_option maxRecDepth 100000 in
theorem c_X6_codeAt_m_now (l : Launch) (D : va_G) (cI cS : ClassId) (X : XP) (F : Nat) (h_m h_m_s h_m_past h_m_held h_m_text h_m_now h_m_kept : Nat) (m_pasts : Int32) (m_runs0 : Int32) (m_typed : Int32) (m_spot : Int32) (m_reason : Int32) (m_cause : Int32) (m_orders : Int32) (m_kindNow : Int32) (m_placeNow : Int32) (m_s : Nat → Int32) (m_past : Nat → Int32) (m_held : Nat → Int32) (m_text : Nat → Int32) (m_now : Nat → Int32) (m_kept : Nat → Int32) (a2 : Int32) (a3 : Int32) {res : Int32} (h : f_X6_codeAt_m_now F m_s m_now a2 a3 = some res) : CtI l D cI cS X yX6_codeAt cX6_codeAt 4 (some .int) 1 [.ref h_m, .ref h_m_now, .int a2, .int a3] [(h_m, .inr (6, [.ref h_m_s, .ref h_m_past, .ref h_m_held, .int m_pasts, .int m_runs0, .ref h_m_text, .int m_typed, .ref h_m_now, .ref h_m_kept, .int m_spot, .int m_reason, .int m_cause, .int m_orders, .int m_kindNow, .int m_placeNow])), (h_m_s, .inl (cI, 116, .inl m_s)), (h_m_past, .inl (cI, 464, .inl m_past)), (h_m_held, .inl (cI, 116, .inl m_held)), (h_m_text, .inl (cI, 60, .inl m_text)), (h_m_now, .inl (cI, 10, .inl m_now)), (h_m_kept, .inl (cI, 16, .inl m_kept))] (PoI res [(h_m, .inr (6, [.ref h_m_s, .ref h_m_past, .ref h_m_held, .int m_pasts, .int m_runs0, .ref h_m_text, .int m_typed, .ref h_m_now, .ref h_m_kept, .int m_spot, .int m_reason, .int m_cause, .int m_orders, .int m_kindNow, .int m_placeNow])), (h_m_s, .inl (cI, 116, .inl m_s)), (h_m_past, .inl (cI, 464, .inl m_past)), (h_m_held, .inl (cI, 116, .inl m_held)), (h_m_text, .inl (cI, 60, .inl m_text)), (h_m_now, .inl (cI, 10, .inl m_now)), (h_m_kept, .inl (cI, 16, .inl m_kept))]) := by
  refine CtI.of (by decide +kernel) rfl ?_
  intro p e s m below meth c A hc
  refine G_lv (lv' := [(0, .ref h_m), (1, .ref h_m_now), (2, .int a2), (3, .int a3)]) (lsame_cons rfl (lsame_cons rfl (lsame_cons rfl (lsame_cons rfl lsame_nil)))) ?_
  unfold f_X6_codeAt_m_now at h
  refine G_aload_n hc dX6_codeAt_0 rfl ?_
  refine G_get hc f_X6_7 0 rfl rfl dX6_codeAt_1 ?_
  refine G_bipush (v := 11) hc dX6_codeAt_4 (by decide) ?_
  refine G_iconst (v := 4) hc dX6_codeAt_6 (by decide) ?_
  refine G_aload_n hc dX6_codeAt_7 rfl ?_
  refine G_iload_n hc dX6_codeAt_8 rfl ?_
  refine G_iconst (v := 2) hc dX6_codeAt_9 (by decide) ?_
  refine G_iload_n hc dX6_codeAt_10 rfl ?_
  refine G_imul hc dX6_codeAt_11 ?_
  refine G_iadd hc dX6_codeAt_12 ?_
  obtain ⟨v1, i_v1, e_v1, h⟩ := rb h
  refine G_iald hc 5 rfl i_v1 e_v1 dX6_codeAt_13 ?_
  refine G_imul hc dX6_codeAt_14 ?_
  refine G_iadd hc dX6_codeAt_15 ?_
  refine G_aload_n hc dX6_codeAt_16 rfl ?_
  refine G_iload_n hc dX6_codeAt_17 rfl ?_
  refine G_iconst (v := 2) hc dX6_codeAt_18 (by decide) ?_
  refine G_iload_n hc dX6_codeAt_19 rfl ?_
  refine G_imul hc dX6_codeAt_20 ?_
  refine G_iadd hc dX6_codeAt_21 ?_
  refine G_iconst (v := 1) hc dX6_codeAt_22 (by decide) ?_
  refine G_iadd hc dX6_codeAt_23 ?_
  obtain ⟨v2, i_v2, e_v2, h⟩ := rb h
  refine G_iald hc 5 rfl i_v2 e_v2 dX6_codeAt_24 ?_
  refine G_iadd hc dX6_codeAt_25 ?_
  obtain ⟨v3, i_v3, e_v3, h⟩ := rb h
  refine G_iald hc 1 rfl i_v3 e_v3 dX6_codeAt_26 ?_
  have h := Option.some.inj h
  subst h
  exact G_ireturn hc ⟨rfl, rfl⟩ dX6_codeAt_27
set_option maxHeartbeats 4000000 in
set_option maxRecDepth 100000 in
theorem c_X6_codeAt_m_s (l : Launch) (D : va_G) (cI cS : ClassId) (X : XP) (F : Nat) (h_m h_m_s h_m_past h_m_held h_m_text h_m_now h_m_kept : Nat) (m_pasts : Int32) (m_runs0 : Int32) (m_typed : Int32) (m_spot : Int32) (m_reason : Int32) (m_cause : Int32) (m_orders : Int32) (m_kindNow : Int32) (m_placeNow : Int32) (m_s : Nat → Int32) (m_past : Nat → Int32) (m_held : Nat → Int32) (m_text : Nat → Int32) (m_now : Nat → Int32) (m_kept : Nat → Int32) (a2 : Int32) (a3 : Int32) {res : Int32} (h : f_X6_codeAt_m_s F m_s a2 a3 = some res) : CtI l D cI cS X yX6_codeAt cX6_codeAt 4 (some .int) 1 [.ref h_m, .ref h_m_s, .int a2, .int a3] [(h_m, .inr (6, [.ref h_m_s, .ref h_m_past, .ref h_m_held, .int m_pasts, .int m_runs0, .ref h_m_text, .int m_typed, .ref h_m_now, .ref h_m_kept, .int m_spot, .int m_reason, .int m_cause, .int m_orders, .int m_kindNow, .int m_placeNow])), (h_m_s, .inl (cI, 116, .inl m_s)), (h_m_past, .inl (cI, 464, .inl m_past)), (h_m_held, .inl (cI, 116, .inl m_held)), (h_m_text, .inl (cI, 60, .inl m_text)), (h_m_now, .inl (cI, 10, .inl m_now)), (h_m_kept, .inl (cI, 16, .inl m_kept))] (PoI res [(h_m, .inr (6, [.ref h_m_s, .ref h_m_past, .ref h_m_held, .int m_pasts, .int m_runs0, .ref h_m_text, .int m_typed, .ref h_m_now, .ref h_m_kept, .int m_spot, .int m_reason, .int m_cause, .int m_orders, .int m_kindNow, .int m_placeNow])), (h_m_s, .inl (cI, 116, .inl m_s)), (h_m_past, .inl (cI, 464, .inl m_past)), (h_m_held, .inl (cI, 116, .inl m_held)), (h_m_text, .inl (cI, 60, .inl m_text)), (h_m_now, .inl (cI, 10, .inl m_now)), (h_m_kept, .inl (cI, 16, .inl m_kept))]) := by
  refine CtI.of (by decide +kernel) rfl ?_
  intro p e s m below meth c A hc
  refine G_lv (lv' := [(0, .ref h_m), (1, .ref h_m_s), (2, .int a2), (3, .int a3)]) (lsame_cons rfl (lsame_cons rfl (lsame_cons rfl (lsame_cons rfl lsame_nil)))) ?_
  unfold f_X6_codeAt_m_s at h
  refine G_aload_n hc dX6_codeAt_0 rfl ?_
  refine G_get hc f_X6_7 0 rfl rfl dX6_codeAt_1 ?_
  refine G_bipush (v := 11) hc dX6_codeAt_4 (by decide) ?_
  refine G_iconst (v := 4) hc dX6_codeAt_6 (by decide) ?_
  refine G_aload_n hc dX6_codeAt_7 rfl ?_
  refine G_iload_n hc dX6_codeAt_8 rfl ?_
  refine G_iconst (v := 2) hc dX6_codeAt_9 (by decide) ?_
  refine G_iload_n hc dX6_codeAt_10 rfl ?_
  refine G_imul hc dX6_codeAt_11 ?_
  refine G_iadd hc dX6_codeAt_12 ?_
  obtain ⟨v1, i_v1, e_v1, h⟩ := rb h
  refine G_iald hc 1 rfl i_v1 e_v1 dX6_codeAt_13 ?_
  refine G_imul hc dX6_codeAt_14 ?_
  refine G_iadd hc dX6_codeAt_15 ?_
  refine G_aload_n hc dX6_codeAt_16 rfl ?_
  refine G_iload_n hc dX6_codeAt_17 rfl ?_
  refine G_iconst (v := 2) hc dX6_codeAt_18 (by decide) ?_
  refine G_iload_n hc dX6_codeAt_19 rfl ?_
  refine G_imul hc dX6_codeAt_20 ?_
  refine G_iadd hc dX6_codeAt_21 ?_
  refine G_iconst (v := 1) hc dX6_codeAt_22 (by decide) ?_
  refine G_iadd hc dX6_codeAt_23 ?_
  obtain ⟨v2, i_v2, e_v2, h⟩ := rb h
  refine G_iald hc 1 rfl i_v2 e_v2 dX6_codeAt_24 ?_
  refine G_iadd hc dX6_codeAt_25 ?_
  obtain ⟨v3, i_v3, e_v3, h⟩ := rb h
  refine G_iald hc 1 rfl i_v3 e_v3 dX6_codeAt_26 ?_
  have h := Option.some.inj h
  subst h
  exact G_ireturn hc ⟨rfl, rfl⟩ dX6_codeAt_27
set_option maxHeartbeats 4000000 in
set_option maxRecDepth 100000 in
theorem c_X6_keepsCodes (l : Launch) (D : va_G) (cI cS : ClassId) (X : XP) (F : Nat) (h_m h_m_s h_m_past h_m_held h_m_text h_m_now h_m_kept : Nat) (m_pasts : Int32) (m_runs0 : Int32) (m_typed : Int32) (m_spot : Int32) (m_reason : Int32) (m_cause : Int32) (m_orders : Int32) (m_kindNow : Int32) (m_placeNow : Int32) (m_s : Nat → Int32) (m_past : Nat → Int32) (m_held : Nat → Int32) (m_text : Nat → Int32) (m_now : Nat → Int32) (m_kept : Nat → Int32) {res : Int32} (h : f_X6_keepsCodes F m_s m_now = some res) : CtI l D cI cS X yX6_keepsCodes cX6_keepsCodes 3 (some .boolean) 2 [.ref h_m] [(h_m, .inr (6, [.ref h_m_s, .ref h_m_past, .ref h_m_held, .int m_pasts, .int m_runs0, .ref h_m_text, .int m_typed, .ref h_m_now, .ref h_m_kept, .int m_spot, .int m_reason, .int m_cause, .int m_orders, .int m_kindNow, .int m_placeNow])), (h_m_s, .inl (cI, 116, .inl m_s)), (h_m_past, .inl (cI, 464, .inl m_past)), (h_m_held, .inl (cI, 116, .inl m_held)), (h_m_text, .inl (cI, 60, .inl m_text)), (h_m_now, .inl (cI, 10, .inl m_now)), (h_m_kept, .inl (cI, 16, .inl m_kept))] (PoI res [(h_m, .inr (6, [.ref h_m_s, .ref h_m_past, .ref h_m_held, .int m_pasts, .int m_runs0, .ref h_m_text, .int m_typed, .ref h_m_now, .ref h_m_kept, .int m_spot, .int m_reason, .int m_cause, .int m_orders, .int m_kindNow, .int m_placeNow])), (h_m_s, .inl (cI, 116, .inl m_s)), (h_m_past, .inl (cI, 464, .inl m_past)), (h_m_held, .inl (cI, 116, .inl m_held)), (h_m_text, .inl (cI, 60, .inl m_text)), (h_m_now, .inl (cI, 10, .inl m_now)), (h_m_kept, .inl (cI, 16, .inl m_kept))]) := by
  refine CtI.of (by decide +kernel) rfl ?_
  intro p e s m below meth c A hc
  refine G_lv (lv' := [(0, .ref h_m)]) (lsame_cons rfl lsame_nil) ?_
  unfold f_X6_keepsCodes at h
  refine G_iconst (v := 1) hc dX6_keepsCodes_0 (by decide) ?_
  refine G_istore_n (lv' := [(0, .ref h_m), (1, .int (1 : Int32))]) hc dX6_keepsCodes_1 rfl rfl ?_
  refine G_iconst (v := 0) hc dX6_keepsCodes_2 (by decide) ?_
  refine G_istore_n (lv' := [(0, .ref h_m), (1, .int (1 : Int32)), (2, .int (0 : Int32))]) hc dX6_keepsCodes_3 rfl rfl ?_
  obtain ⟨e3, hl4, h⟩ := ob h
  have hK8 : G p l e (rmk 2) s m [.ref h_m].toArray below meth c D A 3 0 0 (QI below [.ref h_m].toArray s D A (PoI res [(h_m, .inr (6, [.ref h_m_s, .ref h_m_past, .ref h_m_held, .int m_pasts, .int m_runs0, .ref h_m_text, .int m_typed, .ref h_m_now, .ref h_m_kept, .int m_spot, .int m_reason, .int m_cause, .int m_orders, .int m_kindNow, .int m_placeNow])), (h_m_s, .inl (cI, 116, .inl m_s)), (h_m_past, .inl (cI, 464, .inl m_past)), (h_m_held, .inl (cI, 116, .inl m_held)), (h_m_text, .inl (cI, 60, .inl m_text)), (h_m_now, .inl (cI, 10, .inl m_now)), (h_m_kept, .inl (cI, 16, .inl m_kept))])) [(h_m, .inr (6, [.ref h_m_s, .ref h_m_past, .ref h_m_held, .int m_pasts, .int m_runs0, .ref h_m_text, .int m_typed, .ref h_m_now, .ref h_m_kept, .int m_spot, .int m_reason, .int m_cause, .int m_orders, .int m_kindNow, .int m_placeNow])), (h_m_s, .inl (cI, 116, .inl m_s)), (h_m_past, .inl (cI, 464, .inl m_past)), (h_m_held, .inl (cI, 116, .inl m_held)), (h_m_text, .inl (cI, 60, .inl m_text)), (h_m_now, .inl (cI, 10, .inl m_now)), (h_m_kept, .inl (cI, 16, .inl m_kept))] [(1, .int e3)] 55 [] := by
    refine G_iload_n hc dX6_keepsCodes_55 rfl ?_
    obtain ⟨hz21, h⟩ := zb h
    have h := Option.some.inj h
    subst h
    exact G_zreturn hc hz21 ⟨rfl, rfl⟩ dX6_keepsCodes_56
  clear h
  have hL5 : ∀ (n6 : Nat) (u1 : Int32) (u2 : Int32), f_X6_keepsCodes_L4 F m_s m_now n6 u1 u2 = some e3 → G p l e (rmk 2) s m [.ref h_m].toArray below meth c D A 3 0 0 (QI below [.ref h_m].toArray s D A (PoI res [(h_m, .inr (6, [.ref h_m_s, .ref h_m_past, .ref h_m_held, .int m_pasts, .int m_runs0, .ref h_m_text, .int m_typed, .ref h_m_now, .ref h_m_kept, .int m_spot, .int m_reason, .int m_cause, .int m_orders, .int m_kindNow, .int m_placeNow])), (h_m_s, .inl (cI, 116, .inl m_s)), (h_m_past, .inl (cI, 464, .inl m_past)), (h_m_held, .inl (cI, 116, .inl m_held)), (h_m_text, .inl (cI, 60, .inl m_text)), (h_m_now, .inl (cI, 10, .inl m_now)), (h_m_kept, .inl (cI, 16, .inl m_kept))])) [(h_m, .inr (6, [.ref h_m_s, .ref h_m_past, .ref h_m_held, .int m_pasts, .int m_runs0, .ref h_m_text, .int m_typed, .ref h_m_now, .ref h_m_kept, .int m_spot, .int m_reason, .int m_cause, .int m_orders, .int m_kindNow, .int m_placeNow])), (h_m_s, .inl (cI, 116, .inl m_s)), (h_m_past, .inl (cI, 464, .inl m_past)), (h_m_held, .inl (cI, 116, .inl m_held)), (h_m_text, .inl (cI, 60, .inl m_text)), (h_m_now, .inl (cI, 10, .inl m_now)), (h_m_kept, .inl (cI, 16, .inl m_kept))] [(0, .ref h_m), (1, .int u1), (2, .int u2)] 4 [] := by
    intro n6
    induction n6 with
    | zero =>
      intro u1 u2 h
      exact nz h
    | succ n6 ih7 =>
      intro u1 u2 h
      rw [f_X6_keepsCodes_L4] at h
      refine G_iload_n hc dX6_keepsCodes_4 rfl ?_
      refine G_aload_n hc dX6_keepsCodes_5 rfl ?_
      refine G_get hc f_X6_7 0 rfl rfl dX6_keepsCodes_6 ?_
      refine G_iconst (v := 0) hc dX6_keepsCodes_9 (by decide) ?_
      obtain ⟨v9, i_v9, e_v9, h⟩ := rb h
      refine G_iald hc 1 rfl i_v9 e_v9 dX6_keepsCodes_10 ?_
      refine G_iconst (v := 2) hc dX6_keepsCodes_11 (by decide) ?_
      refine G_idiv hc dX6_keepsCodes_12 (by decide) ?_
      refine G_icmp_ge (tgt := 55) hc dX6_keepsCodes_13 (by decide) (fun c20 => ?_) (fun c20 => ?_)
      · have h := ip h c20
        have h := Option.some.inj h
        subst h
        refine G_lv (lv' := [(1, .int u1)]) (lsame_cons rfl lsame_nil) ?_
        exact hK8
      · have h := inn h c20
        refine G_iload_n hc dX6_keepsCodes_16 rfl ?_
        refine G_if_eq (tgt := 55) hc dX6_keepsCodes_17 (by decide) (fun c19 => ?_) (fun c19 => ?_)
        · have h := ip h c19
          have h := Option.some.inj h
          subst h
          refine G_lv (lv' := [(1, .int u1)]) (lsame_cons rfl lsame_nil) ?_
          exact hK8
        · have h := inn h c19
          refine G_aload_n hc dX6_keepsCodes_20 rfl ?_
          refine G_aload_n hc dX6_keepsCodes_21 rfl ?_
          refine G_get hc f_X6_22 0 rfl rfl dX6_keepsCodes_22 ?_
          refine G_iconst (v := 0) hc dX6_keepsCodes_25 (by decide) ?_
          refine G_iload_n hc dX6_keepsCodes_26 rfl ?_
          obtain ⟨z10, hu11, h⟩ := ob h
          refine G_callVI (ws2 := [(h_m, .inr (6, [.ref h_m_s, .ref h_m_past, .ref h_m_held, .int m_pasts, .int m_runs0, .ref h_m_text, .int m_typed, .ref h_m_now, .ref h_m_kept, .int m_spot, .int m_reason, .int m_cause, .int m_orders, .int m_kindNow, .int m_placeNow])), (h_m_s, .inl (cI, 116, .inl m_s)), (h_m_past, .inl (cI, 464, .inl m_past)), (h_m_held, .inl (cI, 116, .inl m_held)), (h_m_text, .inl (cI, 60, .inl m_text)), (h_m_now, .inl (cI, 10, .inl m_now)), (h_m_kept, .inl (cI, 16, .inl m_kept))]) hc m_X6_70 (c_X6_codeAt_m_now l D cI cS X F h_m h_m_s h_m_past h_m_held h_m_text h_m_now h_m_kept m_pasts m_runs0 m_typed m_spot m_reason m_cause m_orders m_kindNow m_placeNow m_s m_past m_held m_text m_now m_kept (0 : Int32) u2 hu11) 0 [0, 1, 2, 3, 4, 5, 6] rfl rfl (rmok_of (Nat.le_of_ble_eq_true rfl)) ⟨Nat.zero_le _, Nat.zero_le _⟩ rfl rfl rfl rfl rfl ⟨rfl, rfl, rfl⟩ dX6_keepsCodes_27 ?_
          refine G_aload_n hc dX6_keepsCodes_30 rfl ?_
          refine G_aload_n hc dX6_keepsCodes_31 rfl ?_
          refine G_get hc f_X6_7 0 rfl rfl dX6_keepsCodes_32 ?_
          refine G_iconst (v := 1) hc dX6_keepsCodes_35 (by decide) ?_
          refine G_iload_n hc dX6_keepsCodes_36 rfl ?_
          obtain ⟨z12, hu13, h⟩ := ob h
          refine G_callVI (ws2 := [(h_m, .inr (6, [.ref h_m_s, .ref h_m_past, .ref h_m_held, .int m_pasts, .int m_runs0, .ref h_m_text, .int m_typed, .ref h_m_now, .ref h_m_kept, .int m_spot, .int m_reason, .int m_cause, .int m_orders, .int m_kindNow, .int m_placeNow])), (h_m_s, .inl (cI, 116, .inl m_s)), (h_m_past, .inl (cI, 464, .inl m_past)), (h_m_held, .inl (cI, 116, .inl m_held)), (h_m_text, .inl (cI, 60, .inl m_text)), (h_m_now, .inl (cI, 10, .inl m_now)), (h_m_kept, .inl (cI, 16, .inl m_kept))]) hc m_X6_70 (c_X6_codeAt_m_s l D cI cS X F h_m h_m_s h_m_past h_m_held h_m_text h_m_now h_m_kept m_pasts m_runs0 m_typed m_spot m_reason m_cause m_orders m_kindNow m_placeNow m_s m_past m_held m_text m_now m_kept (1 : Int32) u2 hu13) 0 [0, 1, 2, 3, 4, 5, 6] rfl rfl (rmok_of (Nat.le_of_ble_eq_true rfl)) ⟨Nat.zero_le _, Nat.zero_le _⟩ rfl rfl rfl rfl rfl ⟨rfl, rfl, rfl⟩ dX6_keepsCodes_37 ?_
          obtain ⟨t14, hr16, h⟩ := ob h
          have hj15 : G p l e (rmk 2) s m [.ref h_m].toArray below meth c D A 3 0 0 (QI below [.ref h_m].toArray s D A (PoI res [(h_m, .inr (6, [.ref h_m_s, .ref h_m_past, .ref h_m_held, .int m_pasts, .int m_runs0, .ref h_m_text, .int m_typed, .ref h_m_now, .ref h_m_kept, .int m_spot, .int m_reason, .int m_cause, .int m_orders, .int m_kindNow, .int m_placeNow])), (h_m_s, .inl (cI, 116, .inl m_s)), (h_m_past, .inl (cI, 464, .inl m_past)), (h_m_held, .inl (cI, 116, .inl m_held)), (h_m_text, .inl (cI, 60, .inl m_text)), (h_m_now, .inl (cI, 10, .inl m_now)), (h_m_kept, .inl (cI, 16, .inl m_kept))])) [(h_m, .inr (6, [.ref h_m_s, .ref h_m_past, .ref h_m_held, .int m_pasts, .int m_runs0, .ref h_m_text, .int m_typed, .ref h_m_now, .ref h_m_kept, .int m_spot, .int m_reason, .int m_cause, .int m_orders, .int m_kindNow, .int m_placeNow])), (h_m_s, .inl (cI, 116, .inl m_s)), (h_m_past, .inl (cI, 464, .inl m_past)), (h_m_held, .inl (cI, 116, .inl m_held)), (h_m_text, .inl (cI, 60, .inl m_text)), (h_m_now, .inl (cI, 10, .inl m_now)), (h_m_kept, .inl (cI, 16, .inl m_kept))] [(0, .ref h_m), (2, .int u2)] 48 [.int t14] := by
            refine G_istore_n (lv' := [(0, .ref h_m), (2, .int u2), (1, .int t14)]) hc dX6_keepsCodes_48 rfl rfl ?_
            obtain ⟨v18, e_v18, h⟩ := sb h
            refine G_iinc (v := v18) (lv' := [(0, .ref h_m), (2, .int v18), (1, .int t14)]) hc dX6_keepsCodes_49 rfl (e_v18.trans rfl) rfl rfl ?_
            refine G_goto (tgt := 4) hc dX6_keepsCodes_52 (by decide) ?_
            refine G_lv (lv' := [(0, .ref h_m), (1, .int t14), (2, .int v18)]) (lsame_cons rfl (lsame_cons rfl (lsame_cons rfl lsame_nil))) ?_
            exact ih7 _ _ h
          clear h
          have h := hr16
          clear hr16
          refine G_icmp_ne (tgt := 47) hc dX6_keepsCodes_40 (by decide) (fun c17 => ?_) (fun c17 => ?_)
          · have h := inn h c17
            refine G_iconst (v := 0) hc dX6_keepsCodes_47 (by decide) ?_
            have h := Option.some.inj h
            subst h
            refine G_lv (lv' := [(0, .ref h_m), (2, .int u2)]) (lsame_cons rfl (lsame_cons rfl lsame_nil)) ?_
            exact hj15
          · have h := ip h c17
            refine G_iconst (v := 1) hc dX6_keepsCodes_43 (by decide) ?_
            refine G_goto (tgt := 48) hc dX6_keepsCodes_44 (by decide) ?_
            have h := Option.some.inj h
            subst h
            refine G_lv (lv' := [(0, .ref h_m), (2, .int u2)]) (lsame_cons rfl (lsame_cons rfl lsame_nil)) ?_
            exact hj15
  refine G_lv (lv' := [(0, .ref h_m), (1, .int (1 : Int32)), (2, .int (0 : Int32))]) (lsame_cons rfl (lsame_cons rfl (lsame_cons rfl lsame_nil))) ?_
  exact hL5 F _ _ hl4
