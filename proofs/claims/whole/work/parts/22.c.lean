set_option maxHeartbeats 4000000 in
set_option maxRecDepth 100000 in
theorem c_X6_told_m_s (l : Launch) (D : va_G) (cI cS : ClassId) (X : XP) (F : Nat) (h_m h_m_s h_m_past h_m_held h_m_text h_m_now h_m_kept : Nat) (m_pasts : Int32) (m_runs0 : Int32) (m_typed : Int32) (m_spot : Int32) (m_reason : Int32) (m_cause : Int32) (m_orders : Int32) (m_kindNow : Int32) (m_placeNow : Int32) (m_s : Nat → Int32) (m_past : Nat → Int32) (m_held : Nat → Int32) (m_text : Nat → Int32) (m_now : Nat → Int32) (m_kept : Nat → Int32) (a2 : Int32) (a3 : Int32) (a4 : Int32) (a5 : Int32) {res : Int32} (h : f_X6_told_m_s F m_s a2 a3 a4 a5 = some res) : CtI l D cI cS X yX6_told cX6_told 8 (some .int) 2 [.ref h_m, .ref h_m_s, .int a2, .int a3, .int a4, .int a5] [(h_m, .inr (6, [.ref h_m_s, .ref h_m_past, .ref h_m_held, .int m_pasts, .int m_runs0, .ref h_m_text, .int m_typed, .ref h_m_now, .ref h_m_kept, .int m_spot, .int m_reason, .int m_cause, .int m_orders, .int m_kindNow, .int m_placeNow])), (h_m_s, .inl (cI, 116, .inl m_s)), (h_m_past, .inl (cI, 464, .inl m_past)), (h_m_held, .inl (cI, 116, .inl m_held)), (h_m_text, .inl (cI, 60, .inl m_text)), (h_m_now, .inl (cI, 10, .inl m_now)), (h_m_kept, .inl (cI, 16, .inl m_kept))] (PoI res [(h_m, .inr (6, [.ref h_m_s, .ref h_m_past, .ref h_m_held, .int m_pasts, .int m_runs0, .ref h_m_text, .int m_typed, .ref h_m_now, .ref h_m_kept, .int m_spot, .int m_reason, .int m_cause, .int m_orders, .int m_kindNow, .int m_placeNow])), (h_m_s, .inl (cI, 116, .inl m_s)), (h_m_past, .inl (cI, 464, .inl m_past)), (h_m_held, .inl (cI, 116, .inl m_held)), (h_m_text, .inl (cI, 60, .inl m_text)), (h_m_now, .inl (cI, 10, .inl m_now)), (h_m_kept, .inl (cI, 16, .inl m_kept))]) := by
  refine CtI.of (by decide +kernel) rfl ?_
  intro p e s m below meth c A hc
  refine G_lv (lv' := [(0, .ref h_m), (1, .ref h_m_s), (2, .int a2), (3, .int a3), (4, .int a4), (5, .int a5)]) (lsame_cons rfl (lsame_cons rfl (lsame_cons rfl (lsame_cons rfl (lsame_cons rfl (lsame_cons rfl lsame_nil)))))) ?_
  unfold f_X6_told_m_s at h
  refine G_iload_n hc dX6_told_0 rfl ?_
  refine G_if_ne (tgt := 23) hc dX6_told_1 (by decide) (fun c34 => ?_) (fun c34 => ?_)
  · have h := inn h c34
    refine G_iload_n hc dX6_told_23 rfl ?_
    refine G_iconst (v := 1) hc dX6_told_24 (by decide) ?_
    refine G_icmp_ne (tgt := 35) hc dX6_told_25 (by decide) (fun c30 => ?_) (fun c30 => ?_)
    · have h := inn h c30
      refine G_iconst (v := 0) hc dX6_told_35 (by decide) ?_
      refine G_istore (lv' := [(0, .ref h_m), (1, .ref h_m_s), (2, .int a2), (3, .int a3), (4, .int a4), (5, .int a5), (6, .int (0 : Int32))]) hc dX6_told_36 rfl rfl ?_
      refine G_iconst (v := 0) hc dX6_told_38 (by decide) ?_
      refine G_istore (lv' := [(0, .ref h_m), (1, .ref h_m_s), (2, .int a2), (3, .int a3), (4, .int a4), (5, .int a5), (6, .int (0 : Int32)), (7, .int (0 : Int32))]) hc dX6_told_39 rfl rfl ?_
      obtain ⟨e3, hl4, h⟩ := ob h
      have hK8 : G p l e (rmk 2) s m [.ref h_m, .ref h_m_s, .int a2, .int a3, .int a4, .int a5].toArray below meth c D A 8 0 0 (QI below [.ref h_m, .ref h_m_s, .int a2, .int a3, .int a4, .int a5].toArray s D A (PoI res [(h_m, .inr (6, [.ref h_m_s, .ref h_m_past, .ref h_m_held, .int m_pasts, .int m_runs0, .ref h_m_text, .int m_typed, .ref h_m_now, .ref h_m_kept, .int m_spot, .int m_reason, .int m_cause, .int m_orders, .int m_kindNow, .int m_placeNow])), (h_m_s, .inl (cI, 116, .inl m_s)), (h_m_past, .inl (cI, 464, .inl m_past)), (h_m_held, .inl (cI, 116, .inl m_held)), (h_m_text, .inl (cI, 60, .inl m_text)), (h_m_now, .inl (cI, 10, .inl m_now)), (h_m_kept, .inl (cI, 16, .inl m_kept))])) [(h_m, .inr (6, [.ref h_m_s, .ref h_m_past, .ref h_m_held, .int m_pasts, .int m_runs0, .ref h_m_text, .int m_typed, .ref h_m_now, .ref h_m_kept, .int m_spot, .int m_reason, .int m_cause, .int m_orders, .int m_kindNow, .int m_placeNow])), (h_m_s, .inl (cI, 116, .inl m_s)), (h_m_past, .inl (cI, 464, .inl m_past)), (h_m_held, .inl (cI, 116, .inl m_held)), (h_m_text, .inl (cI, 60, .inl m_text)), (h_m_now, .inl (cI, 10, .inl m_now)), (h_m_kept, .inl (cI, 16, .inl m_kept))] [(6, .int e3)] 128 [] := by
        refine G_iload hc dX6_told_128 rfl ?_
        have h := Option.some.inj h
        subst h
        exact G_ireturn hc ⟨rfl, rfl⟩ dX6_told_130
      clear h
      have hL5 : ∀ (n6 : Nat) (u1 : Int32) (u2 : Int32), f_X6_told_m_s_L41 F m_s a2 a3 a4 n6 u1 u2 = some e3 → G p l e (rmk 2) s m [.ref h_m, .ref h_m_s, .int a2, .int a3, .int a4, .int a5].toArray below meth c D A 8 0 0 (QI below [.ref h_m, .ref h_m_s, .int a2, .int a3, .int a4, .int a5].toArray s D A (PoI res [(h_m, .inr (6, [.ref h_m_s, .ref h_m_past, .ref h_m_held, .int m_pasts, .int m_runs0, .ref h_m_text, .int m_typed, .ref h_m_now, .ref h_m_kept, .int m_spot, .int m_reason, .int m_cause, .int m_orders, .int m_kindNow, .int m_placeNow])), (h_m_s, .inl (cI, 116, .inl m_s)), (h_m_past, .inl (cI, 464, .inl m_past)), (h_m_held, .inl (cI, 116, .inl m_held)), (h_m_text, .inl (cI, 60, .inl m_text)), (h_m_now, .inl (cI, 10, .inl m_now)), (h_m_kept, .inl (cI, 16, .inl m_kept))])) [(h_m, .inr (6, [.ref h_m_s, .ref h_m_past, .ref h_m_held, .int m_pasts, .int m_runs0, .ref h_m_text, .int m_typed, .ref h_m_now, .ref h_m_kept, .int m_spot, .int m_reason, .int m_cause, .int m_orders, .int m_kindNow, .int m_placeNow])), (h_m_s, .inl (cI, 116, .inl m_s)), (h_m_past, .inl (cI, 464, .inl m_past)), (h_m_held, .inl (cI, 116, .inl m_held)), (h_m_text, .inl (cI, 60, .inl m_text)), (h_m_now, .inl (cI, 10, .inl m_now)), (h_m_kept, .inl (cI, 16, .inl m_kept))] [(0, .ref h_m), (1, .ref h_m_s), (2, .int a2), (3, .int a3), (4, .int a4), (6, .int u1), (7, .int u2)] 41 [] := by
        intro n6
        induction n6 with
        | zero =>
          intro u1 u2 h
          exact nz h
        | succ n6 ih7 =>
          intro u1 u2 h
          rw [f_X6_told_m_s_L41] at h
          refine G_iload hc dX6_told_41 rfl ?_
          refine G_iload_n hc dX6_told_43 rfl ?_
          refine G_iconst (v := 2) hc dX6_told_44 (by decide) ?_
          obtain ⟨t9, hr11, h⟩ := ob h
          have hj10 : G p l e (rmk 2) s m [.ref h_m, .ref h_m_s, .int a2, .int a3, .int a4, .int a5].toArray below meth c D A 8 0 0 (QI below [.ref h_m, .ref h_m_s, .int a2, .int a3, .int a4, .int a5].toArray s D A (PoI res [(h_m, .inr (6, [.ref h_m_s, .ref h_m_past, .ref h_m_held, .int m_pasts, .int m_runs0, .ref h_m_text, .int m_typed, .ref h_m_now, .ref h_m_kept, .int m_spot, .int m_reason, .int m_cause, .int m_orders, .int m_kindNow, .int m_placeNow])), (h_m_s, .inl (cI, 116, .inl m_s)), (h_m_past, .inl (cI, 464, .inl m_past)), (h_m_held, .inl (cI, 116, .inl m_held)), (h_m_text, .inl (cI, 60, .inl m_text)), (h_m_now, .inl (cI, 10, .inl m_now)), (h_m_kept, .inl (cI, 16, .inl m_kept))])) [(h_m, .inr (6, [.ref h_m_s, .ref h_m_past, .ref h_m_held, .int m_pasts, .int m_runs0, .ref h_m_text, .int m_typed, .ref h_m_now, .ref h_m_kept, .int m_spot, .int m_reason, .int m_cause, .int m_orders, .int m_kindNow, .int m_placeNow])), (h_m_s, .inl (cI, 116, .inl m_s)), (h_m_past, .inl (cI, 464, .inl m_past)), (h_m_held, .inl (cI, 116, .inl m_held)), (h_m_text, .inl (cI, 60, .inl m_text)), (h_m_now, .inl (cI, 10, .inl m_now)), (h_m_kept, .inl (cI, 16, .inl m_kept))] [(0, .ref h_m), (1, .ref h_m_s), (2, .int a2), (3, .int a3), (4, .int a4), (6, .int u1), (7, .int u2)] 65 [.int t9, .int u2] := by
            refine G_icmp_ge (tgt := 128) hc dX6_told_65 (by decide) (fun c27 => ?_) (fun c27 => ?_)
            · have h := ip h c27
              have h := Option.some.inj h
              subst h
              refine G_lv (lv' := [(6, .int u1)]) (lsame_cons rfl lsame_nil) ?_
              exact hK8
            · have h := inn h c27
              refine G_iload hc dX6_told_68 rfl ?_
              refine G_iload_n hc dX6_told_70 rfl ?_
              refine G_iconst (v := 2) hc dX6_told_71 (by decide) ?_
              obtain ⟨t15, hr17, h⟩ := ob h
              have hj16 : G p l e (rmk 2) s m [.ref h_m, .ref h_m_s, .int a2, .int a3, .int a4, .int a5].toArray below meth c D A 8 0 0 (QI below [.ref h_m, .ref h_m_s, .int a2, .int a3, .int a4, .int a5].toArray s D A (PoI res [(h_m, .inr (6, [.ref h_m_s, .ref h_m_past, .ref h_m_held, .int m_pasts, .int m_runs0, .ref h_m_text, .int m_typed, .ref h_m_now, .ref h_m_kept, .int m_spot, .int m_reason, .int m_cause, .int m_orders, .int m_kindNow, .int m_placeNow])), (h_m_s, .inl (cI, 116, .inl m_s)), (h_m_past, .inl (cI, 464, .inl m_past)), (h_m_held, .inl (cI, 116, .inl m_held)), (h_m_text, .inl (cI, 60, .inl m_text)), (h_m_now, .inl (cI, 10, .inl m_now)), (h_m_kept, .inl (cI, 16, .inl m_kept))])) [(h_m, .inr (6, [.ref h_m_s, .ref h_m_past, .ref h_m_held, .int m_pasts, .int m_runs0, .ref h_m_text, .int m_typed, .ref h_m_now, .ref h_m_kept, .int m_spot, .int m_reason, .int m_cause, .int m_orders, .int m_kindNow, .int m_placeNow])), (h_m_s, .inl (cI, 116, .inl m_s)), (h_m_past, .inl (cI, 464, .inl m_past)), (h_m_held, .inl (cI, 116, .inl m_held)), (h_m_text, .inl (cI, 60, .inl m_text)), (h_m_now, .inl (cI, 10, .inl m_now)), (h_m_kept, .inl (cI, 16, .inl m_kept))] [(0, .ref h_m), (1, .ref h_m_s), (2, .int a2), (3, .int a3), (4, .int a4), (7, .int u2)] 119 [.int t15, .int u1] := by
                refine G_iadd hc dX6_told_119 ?_
                obtain ⟨v25, e_v25, h⟩ := sb h
                refine G_top e_v25 ?_
                refine G_istore (lv' := [(0, .ref h_m), (1, .ref h_m_s), (2, .int a2), (3, .int a3), (4, .int a4), (7, .int u2), (6, .int v25)]) hc dX6_told_120 rfl rfl ?_
                obtain ⟨v26, e_v26, h⟩ := sb h
                refine G_iinc (v := v26) (lv' := [(0, .ref h_m), (1, .ref h_m_s), (2, .int a2), (3, .int a3), (4, .int a4), (7, .int v26), (6, .int v25)]) hc dX6_told_122 rfl (e_v26.trans rfl) rfl rfl ?_
                refine G_goto (tgt := 41) hc dX6_told_125 (by decide) ?_
                refine G_lv (lv' := [(0, .ref h_m), (1, .ref h_m_s), (2, .int a2), (3, .int a3), (4, .int a4), (6, .int v25), (7, .int v26)]) (lsame_cons rfl (lsame_cons rfl (lsame_cons rfl (lsame_cons rfl (lsame_cons rfl (lsame_cons rfl (lsame_cons rfl lsame_nil))))))) ?_
                exact ih7 _ _ h
              clear h
              have h := hr17
              clear hr17
              refine G_icmp_ne (tgt := 101) hc dX6_told_72 (by decide) (fun c24 => ?_) (fun c24 => ?_)
              · have h := inn h c24
                refine G_aload_n hc dX6_told_101 rfl ?_
                refine G_aload_n hc dX6_told_102 rfl ?_
                refine G_iload_n hc dX6_told_103 rfl ?_
                refine G_iload hc dX6_told_104 rfl ?_
                obtain ⟨z18, hu19, h⟩ := ob h
                refine G_callVI (ws2 := [(h_m, .inr (6, [.ref h_m_s, .ref h_m_past, .ref h_m_held, .int m_pasts, .int m_runs0, .ref h_m_text, .int m_typed, .ref h_m_now, .ref h_m_kept, .int m_spot, .int m_reason, .int m_cause, .int m_orders, .int m_kindNow, .int m_placeNow])), (h_m_s, .inl (cI, 116, .inl m_s)), (h_m_past, .inl (cI, 464, .inl m_past)), (h_m_held, .inl (cI, 116, .inl m_held)), (h_m_text, .inl (cI, 60, .inl m_text)), (h_m_now, .inl (cI, 10, .inl m_now)), (h_m_kept, .inl (cI, 16, .inl m_kept))]) hc m_X6_70 (c_X6_codeAt_m_s l D cI cS X F h_m h_m_s h_m_past h_m_held h_m_text h_m_now h_m_kept m_pasts m_runs0 m_typed m_spot m_reason m_cause m_orders m_kindNow m_placeNow m_s m_past m_held m_text m_now m_kept a2 u2 hu19) 0 [0, 1, 2, 3, 4, 5, 6] rfl rfl (rmok_of (Nat.le_of_ble_eq_true rfl)) ⟨Nat.zero_le _, Nat.zero_le _⟩ rfl rfl rfl rfl rfl ⟨rfl, rfl, rfl⟩ dX6_told_106 ?_
                refine G_iload hc dX6_told_109 rfl ?_
                refine G_icmp_ne (tgt := 118) hc dX6_told_111 (by decide) (fun c20 => ?_) (fun c20 => ?_)
                · have h := inn h c20
                  refine G_iconst (v := 0) hc dX6_told_118 (by decide) ?_
                  have h := Option.some.inj h
                  subst h
                  refine G_lv (lv' := [(0, .ref h_m), (1, .ref h_m_s), (2, .int a2), (3, .int a3), (4, .int a4), (7, .int u2)]) (lsame_cons rfl (lsame_cons rfl (lsame_cons rfl (lsame_cons rfl (lsame_cons rfl (lsame_cons rfl lsame_nil)))))) ?_
                  exact hj16
                · have h := ip h c20
                  refine G_iconst (v := 1) hc dX6_told_114 (by decide) ?_
                  refine G_goto (tgt := 119) hc dX6_told_115 (by decide) ?_
                  have h := Option.some.inj h
                  subst h
                  refine G_lv (lv' := [(0, .ref h_m), (1, .ref h_m_s), (2, .int a2), (3, .int a3), (4, .int a4), (7, .int u2)]) (lsame_cons rfl (lsame_cons rfl (lsame_cons rfl (lsame_cons rfl (lsame_cons rfl (lsame_cons rfl lsame_nil)))))) ?_
                  exact hj16
              · have h := ip h c24
                refine G_aload_n hc dX6_told_75 rfl ?_
                refine G_iload_n hc dX6_told_76 rfl ?_
                refine G_iload hc dX6_told_77 rfl ?_
                refine G_iadd hc dX6_told_79 ?_
                obtain ⟨v21, i_v21, e_v21, h⟩ := rb h
                refine G_iald hc 1 rfl i_v21 e_v21 dX6_told_80 ?_
                refine G_aload_n hc dX6_told_81 rfl ?_
                refine G_get hc f_X6_7 0 rfl rfl dX6_told_82 ?_
                refine G_iconst (v := 1) hc dX6_told_85 (by decide) ?_
                refine G_iload hc dX6_told_86 rfl ?_
                refine G_iadd hc dX6_told_88 ?_
                obtain ⟨v22, i_v22, e_v22, h⟩ := rb h
                refine G_iald hc 1 rfl i_v22 e_v22 dX6_told_89 ?_
                refine G_icmp_ne (tgt := 97) hc dX6_told_90 (by decide) (fun c23 => ?_) (fun c23 => ?_)
                · have h := inn h c23
                  refine G_iconst (v := 0) hc dX6_told_97 (by decide) ?_
                  refine G_goto (tgt := 119) hc dX6_told_98 (by decide) ?_
                  have h := Option.some.inj h
                  subst h
                  refine G_lv (lv' := [(0, .ref h_m), (1, .ref h_m_s), (2, .int a2), (3, .int a3), (4, .int a4), (7, .int u2)]) (lsame_cons rfl (lsame_cons rfl (lsame_cons rfl (lsame_cons rfl (lsame_cons rfl (lsame_cons rfl lsame_nil)))))) ?_
                  exact hj16
                · have h := ip h c23
                  refine G_iconst (v := 1) hc dX6_told_93 (by decide) ?_
                  refine G_goto (tgt := 119) hc dX6_told_94 (by decide) ?_
                  have h := Option.some.inj h
                  subst h
                  refine G_lv (lv' := [(0, .ref h_m), (1, .ref h_m_s), (2, .int a2), (3, .int a3), (4, .int a4), (7, .int u2)]) (lsame_cons rfl (lsame_cons rfl (lsame_cons rfl (lsame_cons rfl (lsame_cons rfl (lsame_cons rfl lsame_nil)))))) ?_
                  exact hj16
          clear h
          have h := hr11
          clear hr11
          refine G_icmp_ne (tgt := 57) hc dX6_told_45 (by decide) (fun c14 => ?_) (fun c14 => ?_)
          · have h := inn h c14
            refine G_aload_n hc dX6_told_57 rfl ?_
            refine G_get hc f_X6_7 0 rfl rfl dX6_told_58 ?_
            refine G_iconst (v := 0) hc dX6_told_61 (by decide) ?_
            obtain ⟨v12, i_v12, e_v12, h⟩ := rb h
            refine G_iald hc 1 rfl i_v12 e_v12 dX6_told_62 ?_
            refine G_iconst (v := 2) hc dX6_told_63 (by decide) ?_
            refine G_idiv hc dX6_told_64 (by decide) ?_
            have h := Option.some.inj h
            subst h
            refine G_lv (lv' := [(0, .ref h_m), (1, .ref h_m_s), (2, .int a2), (3, .int a3), (4, .int a4), (6, .int u1), (7, .int u2)]) (lsame_cons rfl (lsame_cons rfl (lsame_cons rfl (lsame_cons rfl (lsame_cons rfl (lsame_cons rfl (lsame_cons rfl lsame_nil))))))) ?_
            exact hj10
          · have h := ip h c14
            refine G_aload_n hc dX6_told_48 rfl ?_
            refine G_get hc f_X6_7 0 rfl rfl dX6_told_49 ?_
            refine G_iconst (v := 0) hc dX6_told_52 (by decide) ?_
            obtain ⟨v13, i_v13, e_v13, h⟩ := rb h
            refine G_iald hc 1 rfl i_v13 e_v13 dX6_told_53 ?_
            refine G_goto (tgt := 65) hc dX6_told_54 (by decide) ?_
            have h := Option.some.inj h
            subst h
            refine G_lv (lv' := [(0, .ref h_m), (1, .ref h_m_s), (2, .int a2), (3, .int a3), (4, .int a4), (6, .int u1), (7, .int u2)]) (lsame_cons rfl (lsame_cons rfl (lsame_cons rfl (lsame_cons rfl (lsame_cons rfl (lsame_cons rfl (lsame_cons rfl lsame_nil))))))) ?_
            exact hj10
      refine G_lv (lv' := [(0, .ref h_m), (1, .ref h_m_s), (2, .int a2), (3, .int a3), (4, .int a4), (6, .int (0 : Int32)), (7, .int (0 : Int32))]) (lsame_cons rfl (lsame_cons rfl (lsame_cons rfl (lsame_cons rfl (lsame_cons rfl (lsame_cons rfl (lsame_cons rfl lsame_nil))))))) ?_
      exact hL5 F _ _ hl4
    · have h := ip h c30
      refine G_aload_n hc dX6_told_28 rfl ?_
      refine G_aload_n hc dX6_told_29 rfl ?_
      refine G_iload_n hc dX6_told_30 rfl ?_
      obtain ⟨z28, hu29, h⟩ := ob h
      refine G_callVI (ws2 := [(h_m, .inr (6, [.ref h_m_s, .ref h_m_past, .ref h_m_held, .int m_pasts, .int m_runs0, .ref h_m_text, .int m_typed, .ref h_m_now, .ref h_m_kept, .int m_spot, .int m_reason, .int m_cause, .int m_orders, .int m_kindNow, .int m_placeNow])), (h_m_s, .inl (cI, 116, .inl m_s)), (h_m_past, .inl (cI, 464, .inl m_past)), (h_m_held, .inl (cI, 116, .inl m_held)), (h_m_text, .inl (cI, 60, .inl m_text)), (h_m_now, .inl (cI, 10, .inl m_now)), (h_m_kept, .inl (cI, 16, .inl m_kept))]) hc m_X6_107 (c_X6_runsOf_m_s l D cI cS X F h_m h_m_s h_m_past h_m_held h_m_text h_m_now h_m_kept m_pasts m_runs0 m_typed m_spot m_reason m_cause m_orders m_kindNow m_placeNow m_s m_past m_held m_text m_now m_kept a2 hu29) 0 [0, 1, 2, 3, 4, 5, 6] rfl rfl (rmok_of (Nat.le_of_ble_eq_true rfl)) ⟨Nat.zero_le _, Nat.zero_le _⟩ rfl rfl rfl rfl rfl ⟨rfl, rfl, rfl⟩ dX6_told_31 ?_
      have h := Option.some.inj h
      subst h
      exact G_ireturn hc ⟨rfl, rfl⟩ dX6_told_34
  · have h := ip h c34
    refine G_aload_n hc dX6_told_4 rfl ?_
    refine G_iload_n hc dX6_told_5 rfl ?_
    refine G_aload_n hc dX6_told_6 rfl ?_
    refine G_get hc f_X6_7 0 rfl rfl dX6_told_7 ?_
    refine G_iconst (v := 0) hc dX6_told_10 (by decide) ?_
    obtain ⟨v31, i_v31, e_v31, h⟩ := rb h
    refine G_iald hc 1 rfl i_v31 e_v31 dX6_told_11 ?_
    refine G_iconst (v := 4) hc dX6_told_12 (by decide) ?_
    refine G_iload hc dX6_told_13 rfl ?_
    refine G_imul hc dX6_told_15 ?_
    refine G_iload hc dX6_told_16 rfl ?_
    refine G_iadd hc dX6_told_18 ?_
    obtain ⟨z32, hu33, h⟩ := ob h
    refine G_callSI (ws2 := [(h_m, .inr (6, [.ref h_m_s, .ref h_m_past, .ref h_m_held, .int m_pasts, .int m_runs0, .ref h_m_text, .int m_typed, .ref h_m_now, .ref h_m_kept, .int m_spot, .int m_reason, .int m_cause, .int m_orders, .int m_kindNow, .int m_placeNow])), (h_m_s, .inl (cI, 116, .inl m_s)), (h_m_past, .inl (cI, 464, .inl m_past)), (h_m_held, .inl (cI, 116, .inl m_held)), (h_m_text, .inl (cI, 60, .inl m_text)), (h_m_now, .inl (cI, 10, .inl m_now)), (h_m_kept, .inl (cI, 16, .inl m_kept))]) hc m_X6_51 (c_X6_often l D cI cS X F h_m_s 116 m_s a2 v31 (((4 : Int32) * a4) + a5) hu33) [1] (rmok_of (Nat.le_of_ble_eq_true rfl)) ⟨Nat.zero_le _, Nat.zero_le _⟩ rfl rfl rfl rfl rfl ⟨rfl, rfl, rfl⟩ dX6_told_19 ?_
    have h := Option.some.inj h
    subst h
    exact G_ireturn hc ⟨rfl, rfl⟩ dX6_told_22
set_option maxHeartbeats 4000000 in
set_option maxRecDepth 100000 in
theorem c_X6_measure (l : Launch) (D : va_G) (cI cS : ClassId) (X : XP) (F : Nat) (h_m h_m_s h_m_past h_m_held h_m_text h_m_now h_m_kept : Nat) (m_pasts : Int32) (m_runs0 : Int32) (m_typed : Int32) (m_spot : Int32) (m_reason : Int32) (m_cause : Int32) (m_orders : Int32) (m_kindNow : Int32) (m_placeNow : Int32) (m_s : Nat → Int32) (m_past : Nat → Int32) (m_held : Nat → Int32) (m_text : Nat → Int32) (m_now : Nat → Int32) (m_kept : Nat → Int32) (a1 : Int32) (a2 : Int32) (a3 : Int32) {res : Int32} (h : f_X6_measure F m_s a1 a2 a3 = some res) : CtI l D cI cS X yX6_measure cX6_measure 4 (some .int) 3 [.ref h_m, .int a1, .int a2, .int a3] [(h_m, .inr (6, [.ref h_m_s, .ref h_m_past, .ref h_m_held, .int m_pasts, .int m_runs0, .ref h_m_text, .int m_typed, .ref h_m_now, .ref h_m_kept, .int m_spot, .int m_reason, .int m_cause, .int m_orders, .int m_kindNow, .int m_placeNow])), (h_m_s, .inl (cI, 116, .inl m_s)), (h_m_past, .inl (cI, 464, .inl m_past)), (h_m_held, .inl (cI, 116, .inl m_held)), (h_m_text, .inl (cI, 60, .inl m_text)), (h_m_now, .inl (cI, 10, .inl m_now)), (h_m_kept, .inl (cI, 16, .inl m_kept))] (PoI res [(h_m, .inr (6, [.ref h_m_s, .ref h_m_past, .ref h_m_held, .int m_pasts, .int m_runs0, .ref h_m_text, .int m_typed, .ref h_m_now, .ref h_m_kept, .int m_spot, .int m_reason, .int m_cause, .int m_orders, .int m_kindNow, .int m_placeNow])), (h_m_s, .inl (cI, 116, .inl m_s)), (h_m_past, .inl (cI, 464, .inl m_past)), (h_m_held, .inl (cI, 116, .inl m_held)), (h_m_text, .inl (cI, 60, .inl m_text)), (h_m_now, .inl (cI, 10, .inl m_now)), (h_m_kept, .inl (cI, 16, .inl m_kept))]) := by
  refine CtI.of (by decide +kernel) rfl ?_
  intro p e s m below meth c A hc
  refine G_lv (lv' := [(0, .ref h_m), (1, .int a1), (2, .int a2), (3, .int a3)]) (lsame_cons rfl (lsame_cons rfl (lsame_cons rfl (lsame_cons rfl lsame_nil)))) ?_
  unfold f_X6_measure at h
  refine G_iload_n hc dX6_measure_0 rfl ?_
  obtain ⟨z1, hu2, h⟩ := ob h
  refine G_callSI (ws2 := [(h_m, .inr (6, [.ref h_m_s, .ref h_m_past, .ref h_m_held, .int m_pasts, .int m_runs0, .ref h_m_text, .int m_typed, .ref h_m_now, .ref h_m_kept, .int m_spot, .int m_reason, .int m_cause, .int m_orders, .int m_kindNow, .int m_placeNow])), (h_m_s, .inl (cI, 116, .inl m_s)), (h_m_past, .inl (cI, 464, .inl m_past)), (h_m_held, .inl (cI, 116, .inl m_held)), (h_m_text, .inl (cI, 60, .inl m_text)), (h_m_now, .inl (cI, 10, .inl m_now)), (h_m_kept, .inl (cI, 16, .inl m_kept))]) hc m_X6_40 (c_X6_is4 l D cI cS X F a1 hu2) [] (rmok_of (Nat.le_of_ble_eq_true rfl)) ⟨Nat.zero_le _, Nat.zero_le _⟩ rfl rfl rfl rfl rfl ⟨rfl, rfl, rfl⟩ dX6_measure_1 ?_
  obtain ⟨t3, hr5, h⟩ := ob h
  have hj4 : G p l e (rmk 3) s m [.ref h_m, .int a1, .int a2, .int a3].toArray below meth c D A 4 0 0 (QI below [.ref h_m, .int a1, .int a2, .int a3].toArray s D A (PoI res [(h_m, .inr (6, [.ref h_m_s, .ref h_m_past, .ref h_m_held, .int m_pasts, .int m_runs0, .ref h_m_text, .int m_typed, .ref h_m_now, .ref h_m_kept, .int m_spot, .int m_reason, .int m_cause, .int m_orders, .int m_kindNow, .int m_placeNow])), (h_m_s, .inl (cI, 116, .inl m_s)), (h_m_past, .inl (cI, 464, .inl m_past)), (h_m_held, .inl (cI, 116, .inl m_held)), (h_m_text, .inl (cI, 60, .inl m_text)), (h_m_now, .inl (cI, 10, .inl m_now)), (h_m_kept, .inl (cI, 16, .inl m_kept))])) [(h_m, .inr (6, [.ref h_m_s, .ref h_m_past, .ref h_m_held, .int m_pasts, .int m_runs0, .ref h_m_text, .int m_typed, .ref h_m_now, .ref h_m_kept, .int m_spot, .int m_reason, .int m_cause, .int m_orders, .int m_kindNow, .int m_placeNow])), (h_m_s, .inl (cI, 116, .inl m_s)), (h_m_past, .inl (cI, 464, .inl m_past)), (h_m_held, .inl (cI, 116, .inl m_held)), (h_m_text, .inl (cI, 60, .inl m_text)), (h_m_now, .inl (cI, 10, .inl m_now)), (h_m_kept, .inl (cI, 16, .inl m_kept))] [] 38 [.int t3] := by
    have h := Option.some.inj h
    subst h
    exact G_ireturn hc ⟨rfl, rfl⟩ dX6_measure_38
  clear h
  have h := hr5
  clear hr5
  refine G_if_eq (tgt := 36) hc dX6_measure_4 (by decide) (fun c14 => ?_) (fun c14 => ?_)
  · have h := ip h c14
    refine G_ldc (v := -1000001) hc k_X6_44 dX6_measure_36 ?_
    have h := Option.some.inj h
    subst h
    refine G_lv (lv' := []) lsame_nil ?_
    exact hj4
  · have h := inn h c14
    refine G_iload_n hc dX6_measure_7 rfl ?_
    obtain ⟨z6, hu7, h⟩ := ob h
    refine G_callSI (ws2 := [(h_m, .inr (6, [.ref h_m_s, .ref h_m_past, .ref h_m_held, .int m_pasts, .int m_runs0, .ref h_m_text, .int m_typed, .ref h_m_now, .ref h_m_kept, .int m_spot, .int m_reason, .int m_cause, .int m_orders, .int m_kindNow, .int m_placeNow])), (h_m_s, .inl (cI, 116, .inl m_s)), (h_m_past, .inl (cI, 464, .inl m_past)), (h_m_held, .inl (cI, 116, .inl m_held)), (h_m_text, .inl (cI, 60, .inl m_text)), (h_m_now, .inl (cI, 10, .inl m_now)), (h_m_kept, .inl (cI, 16, .inl m_kept))]) hc m_X6_40 (c_X6_is4 l D cI cS X F a2 hu7) [] (rmok_of (Nat.le_of_ble_eq_true rfl)) ⟨Nat.zero_le _, Nat.zero_le _⟩ rfl rfl rfl rfl rfl ⟨rfl, rfl, rfl⟩ dX6_measure_8 ?_
    refine G_if_eq (tgt := 36) hc dX6_measure_11 (by decide) (fun c13 => ?_) (fun c13 => ?_)
    · have h := ip h c13
      refine G_ldc (v := -1000001) hc k_X6_44 dX6_measure_36 ?_
      have h := Option.some.inj h
      subst h
      refine G_lv (lv' := []) lsame_nil ?_
      exact hj4
    · have h := inn h c13
      refine G_iload_n hc dX6_measure_14 rfl ?_
      obtain ⟨z8, hu9, h⟩ := ob h
      refine G_callSI (ws2 := [(h_m, .inr (6, [.ref h_m_s, .ref h_m_past, .ref h_m_held, .int m_pasts, .int m_runs0, .ref h_m_text, .int m_typed, .ref h_m_now, .ref h_m_kept, .int m_spot, .int m_reason, .int m_cause, .int m_orders, .int m_kindNow, .int m_placeNow])), (h_m_s, .inl (cI, 116, .inl m_s)), (h_m_past, .inl (cI, 464, .inl m_past)), (h_m_held, .inl (cI, 116, .inl m_held)), (h_m_text, .inl (cI, 60, .inl m_text)), (h_m_now, .inl (cI, 10, .inl m_now)), (h_m_kept, .inl (cI, 16, .inl m_kept))]) hc m_X6_40 (c_X6_is4 l D cI cS X F a3 hu9) [] (rmok_of (Nat.le_of_ble_eq_true rfl)) ⟨Nat.zero_le _, Nat.zero_le _⟩ rfl rfl rfl rfl rfl ⟨rfl, rfl, rfl⟩ dX6_measure_15 ?_
      refine G_if_eq (tgt := 36) hc dX6_measure_18 (by decide) (fun c12 => ?_) (fun c12 => ?_)
      · have h := ip h c12
        refine G_ldc (v := -1000001) hc k_X6_44 dX6_measure_36 ?_
        have h := Option.some.inj h
        subst h
        refine G_lv (lv' := []) lsame_nil ?_
        exact hj4
      · have h := inn h c12
        refine G_aload_n hc dX6_measure_21 rfl ?_
        refine G_aload_n hc dX6_measure_22 rfl ?_
        refine G_get hc f_X6_7 0 rfl rfl dX6_measure_23 ?_
        refine G_iconst (v := 1) hc dX6_measure_26 (by decide) ?_
        refine G_iload_n hc dX6_measure_27 rfl ?_
        refine G_iload_n hc dX6_measure_28 rfl ?_
        refine G_iload_n hc dX6_measure_29 rfl ?_
        obtain ⟨z10, hu11, h⟩ := ob h
        refine G_callVI (ws2 := [(h_m, .inr (6, [.ref h_m_s, .ref h_m_past, .ref h_m_held, .int m_pasts, .int m_runs0, .ref h_m_text, .int m_typed, .ref h_m_now, .ref h_m_kept, .int m_spot, .int m_reason, .int m_cause, .int m_orders, .int m_kindNow, .int m_placeNow])), (h_m_s, .inl (cI, 116, .inl m_s)), (h_m_past, .inl (cI, 464, .inl m_past)), (h_m_held, .inl (cI, 116, .inl m_held)), (h_m_text, .inl (cI, 60, .inl m_text)), (h_m_now, .inl (cI, 10, .inl m_now)), (h_m_kept, .inl (cI, 16, .inl m_kept))]) hc m_X6_111 (c_X6_told_m_s l D cI cS X F h_m h_m_s h_m_past h_m_held h_m_text h_m_now h_m_kept m_pasts m_runs0 m_typed m_spot m_reason m_cause m_orders m_kindNow m_placeNow m_s m_past m_held m_text m_now m_kept (1 : Int32) a1 a2 a3 hu11) 0 [0, 1, 2, 3, 4, 5, 6] rfl rfl (rmok_of (Nat.le_of_ble_eq_true rfl)) ⟨Nat.zero_le _, Nat.zero_le _⟩ rfl rfl rfl rfl rfl ⟨rfl, rfl, rfl⟩ dX6_measure_30 ?_
        refine G_goto (tgt := 38) hc dX6_measure_33 (by decide) ?_
        have h := Option.some.inj h
        subst h
        refine G_lv (lv' := []) lsame_nil ?_
        exact hj4
set_option maxHeartbeats 4000000 in
set_option maxRecDepth 100000 in
theorem c_X6_runsOf_m_now (l : Launch) (D : va_G) (cI cS : ClassId) (X : XP) (F : Nat) (h_m h_m_s h_m_past h_m_held h_m_text h_m_now h_m_kept : Nat) (m_pasts : Int32) (m_runs0 : Int32) (m_typed : Int32) (m_spot : Int32) (m_reason : Int32) (m_cause : Int32) (m_orders : Int32) (m_kindNow : Int32) (m_placeNow : Int32) (m_s : Nat → Int32) (m_past : Nat → Int32) (m_held : Nat → Int32) (m_text : Nat → Int32) (m_now : Nat → Int32) (m_kept : Nat → Int32) (a2 : Int32) {res : Int32} (h : f_X6_runsOf_m_now F m_s m_now a2 = some res) : CtI l D cI cS X yX6_runsOf cX6_runsOf 5 (some .int) 1 [.ref h_m, .ref h_m_now, .int a2] [(h_m, .inr (6, [.ref h_m_s, .ref h_m_past, .ref h_m_held, .int m_pasts, .int m_runs0, .ref h_m_text, .int m_typed, .ref h_m_now, .ref h_m_kept, .int m_spot, .int m_reason, .int m_cause, .int m_orders, .int m_kindNow, .int m_placeNow])), (h_m_s, .inl (cI, 116, .inl m_s)), (h_m_past, .inl (cI, 464, .inl m_past)), (h_m_held, .inl (cI, 116, .inl m_held)), (h_m_text, .inl (cI, 60, .inl m_text)), (h_m_now, .inl (cI, 10, .inl m_now)), (h_m_kept, .inl (cI, 16, .inl m_kept))] (PoI res [(h_m, .inr (6, [.ref h_m_s, .ref h_m_past, .ref h_m_held, .int m_pasts, .int m_runs0, .ref h_m_text, .int m_typed, .ref h_m_now, .ref h_m_kept, .int m_spot, .int m_reason, .int m_cause, .int m_orders, .int m_kindNow, .int m_placeNow])), (h_m_s, .inl (cI, 116, .inl m_s)), (h_m_past, .inl (cI, 464, .inl m_past)), (h_m_held, .inl (cI, 116, .inl m_held)), (h_m_text, .inl (cI, 60, .inl m_text)), (h_m_now, .inl (cI, 10, .inl m_now)), (h_m_kept, .inl (cI, 16, .inl m_kept))]) := by
  refine CtI.of (by decide +kernel) rfl ?_
  intro p e s m below meth c A hc
  refine G_lv (lv' := [(0, .ref h_m), (1, .ref h_m_now), (2, .int a2)]) (lsame_cons rfl (lsame_cons rfl (lsame_cons rfl lsame_nil))) ?_
  unfold f_X6_runsOf_m_now at h
  refine G_aload_n hc dX6_runsOf_0 rfl ?_
  refine G_get hc f_X6_7 0 rfl rfl dX6_runsOf_1 ?_
  refine G_iconst (v := 0) hc dX6_runsOf_4 (by decide) ?_
  obtain ⟨v1, i_v1, e_v1, h⟩ := rb h
  refine G_iald hc 1 rfl i_v1 e_v1 dX6_runsOf_5 ?_
  obtain ⟨t2, hr4, h⟩ := ob h
  have hj3 : G p l e (rmk 1) s m [.ref h_m, .ref h_m_now, .int a2].toArray below meth c D A 5 0 0 (QI below [.ref h_m, .ref h_m_now, .int a2].toArray s D A (PoI res [(h_m, .inr (6, [.ref h_m_s, .ref h_m_past, .ref h_m_held, .int m_pasts, .int m_runs0, .ref h_m_text, .int m_typed, .ref h_m_now, .ref h_m_kept, .int m_spot, .int m_reason, .int m_cause, .int m_orders, .int m_kindNow, .int m_placeNow])), (h_m_s, .inl (cI, 116, .inl m_s)), (h_m_past, .inl (cI, 464, .inl m_past)), (h_m_held, .inl (cI, 116, .inl m_held)), (h_m_text, .inl (cI, 60, .inl m_text)), (h_m_now, .inl (cI, 10, .inl m_now)), (h_m_kept, .inl (cI, 16, .inl m_kept))])) [(h_m, .inr (6, [.ref h_m_s, .ref h_m_past, .ref h_m_held, .int m_pasts, .int m_runs0, .ref h_m_text, .int m_typed, .ref h_m_now, .ref h_m_kept, .int m_spot, .int m_reason, .int m_cause, .int m_orders, .int m_kindNow, .int m_placeNow])), (h_m_s, .inl (cI, 116, .inl m_s)), (h_m_past, .inl (cI, 464, .inl m_past)), (h_m_held, .inl (cI, 116, .inl m_held)), (h_m_text, .inl (cI, 60, .inl m_text)), (h_m_now, .inl (cI, 10, .inl m_now)), (h_m_kept, .inl (cI, 16, .inl m_kept))] [(0, .ref h_m), (1, .ref h_m_now), (2, .int a2)] 14 [.int t2] := by
    refine G_istore_n (lv' := [(0, .ref h_m), (1, .ref h_m_now), (2, .int a2), (3, .int t2)]) hc dX6_runsOf_14 rfl rfl ?_
    refine G_iconst (v := 1) hc dX6_runsOf_15 (by decide) ?_
    refine G_istore (lv' := [(0, .ref h_m), (1, .ref h_m_now), (2, .int a2), (3, .int t2), (4, .int (1 : Int32))]) hc dX6_runsOf_16 rfl rfl ?_
    obtain ⟨e8, hl9, h⟩ := ob h
    have hK13 : G p l e (rmk 1) s m [.ref h_m, .ref h_m_now, .int a2].toArray below meth c D A 5 0 0 (QI below [.ref h_m, .ref h_m_now, .int a2].toArray s D A (PoI res [(h_m, .inr (6, [.ref h_m_s, .ref h_m_past, .ref h_m_held, .int m_pasts, .int m_runs0, .ref h_m_text, .int m_typed, .ref h_m_now, .ref h_m_kept, .int m_spot, .int m_reason, .int m_cause, .int m_orders, .int m_kindNow, .int m_placeNow])), (h_m_s, .inl (cI, 116, .inl m_s)), (h_m_past, .inl (cI, 464, .inl m_past)), (h_m_held, .inl (cI, 116, .inl m_held)), (h_m_text, .inl (cI, 60, .inl m_text)), (h_m_now, .inl (cI, 10, .inl m_now)), (h_m_kept, .inl (cI, 16, .inl m_kept))])) [(h_m, .inr (6, [.ref h_m_s, .ref h_m_past, .ref h_m_held, .int m_pasts, .int m_runs0, .ref h_m_text, .int m_typed, .ref h_m_now, .ref h_m_kept, .int m_spot, .int m_reason, .int m_cause, .int m_orders, .int m_kindNow, .int m_placeNow])), (h_m_s, .inl (cI, 116, .inl m_s)), (h_m_past, .inl (cI, 464, .inl m_past)), (h_m_held, .inl (cI, 116, .inl m_held)), (h_m_text, .inl (cI, 60, .inl m_text)), (h_m_now, .inl (cI, 10, .inl m_now)), (h_m_kept, .inl (cI, 16, .inl m_kept))] [(3, .int e8)] 60 [] := by
      refine G_iload_n hc dX6_runsOf_60 rfl ?_
      have h := Option.some.inj h
      subst h
      exact G_ireturn hc ⟨rfl, rfl⟩ dX6_runsOf_61
    clear h
    have hL10 : ∀ (n11 : Nat) (u6 : Int32) (u7 : Int32), f_X6_runsOf_m_now_L18 F m_s m_now a2 n11 u6 u7 = some e8 → G p l e (rmk 1) s m [.ref h_m, .ref h_m_now, .int a2].toArray below meth c D A 5 0 0 (QI below [.ref h_m, .ref h_m_now, .int a2].toArray s D A (PoI res [(h_m, .inr (6, [.ref h_m_s, .ref h_m_past, .ref h_m_held, .int m_pasts, .int m_runs0, .ref h_m_text, .int m_typed, .ref h_m_now, .ref h_m_kept, .int m_spot, .int m_reason, .int m_cause, .int m_orders, .int m_kindNow, .int m_placeNow])), (h_m_s, .inl (cI, 116, .inl m_s)), (h_m_past, .inl (cI, 464, .inl m_past)), (h_m_held, .inl (cI, 116, .inl m_held)), (h_m_text, .inl (cI, 60, .inl m_text)), (h_m_now, .inl (cI, 10, .inl m_now)), (h_m_kept, .inl (cI, 16, .inl m_kept))])) [(h_m, .inr (6, [.ref h_m_s, .ref h_m_past, .ref h_m_held, .int m_pasts, .int m_runs0, .ref h_m_text, .int m_typed, .ref h_m_now, .ref h_m_kept, .int m_spot, .int m_reason, .int m_cause, .int m_orders, .int m_kindNow, .int m_placeNow])), (h_m_s, .inl (cI, 116, .inl m_s)), (h_m_past, .inl (cI, 464, .inl m_past)), (h_m_held, .inl (cI, 116, .inl m_held)), (h_m_text, .inl (cI, 60, .inl m_text)), (h_m_now, .inl (cI, 10, .inl m_now)), (h_m_kept, .inl (cI, 16, .inl m_kept))] [(0, .ref h_m), (1, .ref h_m_now), (2, .int a2), (3, .int u6), (4, .int u7)] 18 [] := by
      intro n11
      induction n11 with
      | zero =>
        intro u6 u7 h
        exact nz h
      | succ n11 ih12 =>
        intro u6 u7 h
        rw [f_X6_runsOf_m_now_L18] at h
        refine G_iload hc dX6_runsOf_18 rfl ?_
        refine G_aload_n hc dX6_runsOf_20 rfl ?_
        refine G_get hc f_X6_7 0 rfl rfl dX6_runsOf_21 ?_
        refine G_iconst (v := 0) hc dX6_runsOf_24 (by decide) ?_
        obtain ⟨v14, i_v14, e_v14, h⟩ := rb h
        refine G_iald hc 1 rfl i_v14 e_v14 dX6_runsOf_25 ?_
        refine G_icmp_ge (tgt := 60) hc dX6_runsOf_26 (by decide) (fun c23 => ?_) (fun c23 => ?_)
        · have h := ip h c23
          have h := Option.some.inj h
          subst h
          refine G_lv (lv' := [(3, .int u6)]) (lsame_cons rfl lsame_nil) ?_
          exact hK13
        · have h := inn h c23
          refine G_iload_n hc dX6_runsOf_29 rfl ?_
          refine G_aload_n hc dX6_runsOf_30 rfl ?_
          refine G_iload_n hc dX6_runsOf_31 rfl ?_
          refine G_iload hc dX6_runsOf_32 rfl ?_
          refine G_iadd hc dX6_runsOf_34 ?_
          obtain ⟨v15, i_v15, e_v15, h⟩ := rb h
          refine G_iald hc 5 rfl i_v15 e_v15 dX6_runsOf_35 ?_
          refine G_aload_n hc dX6_runsOf_36 rfl ?_
          refine G_iload_n hc dX6_runsOf_37 rfl ?_
          refine G_iload hc dX6_runsOf_38 rfl ?_
          refine G_iadd hc dX6_runsOf_40 ?_
          refine G_iconst (v := 1) hc dX6_runsOf_41 (by decide) ?_
          refine G_isub hc dX6_runsOf_42 ?_
          obtain ⟨v16, i_v16, e_v16, h⟩ := rb h
          refine G_iald hc 5 rfl i_v16 e_v16 dX6_runsOf_43 ?_
          obtain ⟨t17, hr19, h⟩ := ob h
          have hj18 : G p l e (rmk 1) s m [.ref h_m, .ref h_m_now, .int a2].toArray below meth c D A 5 0 0 (QI below [.ref h_m, .ref h_m_now, .int a2].toArray s D A (PoI res [(h_m, .inr (6, [.ref h_m_s, .ref h_m_past, .ref h_m_held, .int m_pasts, .int m_runs0, .ref h_m_text, .int m_typed, .ref h_m_now, .ref h_m_kept, .int m_spot, .int m_reason, .int m_cause, .int m_orders, .int m_kindNow, .int m_placeNow])), (h_m_s, .inl (cI, 116, .inl m_s)), (h_m_past, .inl (cI, 464, .inl m_past)), (h_m_held, .inl (cI, 116, .inl m_held)), (h_m_text, .inl (cI, 60, .inl m_text)), (h_m_now, .inl (cI, 10, .inl m_now)), (h_m_kept, .inl (cI, 16, .inl m_kept))])) [(h_m, .inr (6, [.ref h_m_s, .ref h_m_past, .ref h_m_held, .int m_pasts, .int m_runs0, .ref h_m_text, .int m_typed, .ref h_m_now, .ref h_m_kept, .int m_spot, .int m_reason, .int m_cause, .int m_orders, .int m_kindNow, .int m_placeNow])), (h_m_s, .inl (cI, 116, .inl m_s)), (h_m_past, .inl (cI, 464, .inl m_past)), (h_m_held, .inl (cI, 116, .inl m_held)), (h_m_text, .inl (cI, 60, .inl m_text)), (h_m_now, .inl (cI, 10, .inl m_now)), (h_m_kept, .inl (cI, 16, .inl m_kept))] [(0, .ref h_m), (1, .ref h_m_now), (2, .int a2), (4, .int u7)] 52 [.int t17, .int u6] := by
            refine G_iadd hc dX6_runsOf_52 ?_
            obtain ⟨v21, e_v21, h⟩ := sb h
            refine G_top e_v21 ?_
            refine G_istore_n (lv' := [(0, .ref h_m), (1, .ref h_m_now), (2, .int a2), (4, .int u7), (3, .int v21)]) hc dX6_runsOf_53 rfl rfl ?_
            obtain ⟨v22, e_v22, h⟩ := sb h
            refine G_iinc (v := v22) (lv' := [(0, .ref h_m), (1, .ref h_m_now), (2, .int a2), (4, .int v22), (3, .int v21)]) hc dX6_runsOf_54 rfl (e_v22.trans rfl) rfl rfl ?_
            refine G_goto (tgt := 18) hc dX6_runsOf_57 (by decide) ?_
            refine G_lv (lv' := [(0, .ref h_m), (1, .ref h_m_now), (2, .int a2), (3, .int v21), (4, .int v22)]) (lsame_cons rfl (lsame_cons rfl (lsame_cons rfl (lsame_cons rfl (lsame_cons rfl lsame_nil))))) ?_
            exact ih12 _ _ h
          clear h
          have h := hr19
          clear hr19
          refine G_icmp_ne (tgt := 51) hc dX6_runsOf_44 (by decide) (fun c20 => ?_) (fun c20 => ?_)
          · have h := inn h c20
            refine G_iconst (v := 1) hc dX6_runsOf_51 (by decide) ?_
            have h := Option.some.inj h
            subst h
            refine G_lv (lv' := [(0, .ref h_m), (1, .ref h_m_now), (2, .int a2), (4, .int u7)]) (lsame_cons rfl (lsame_cons rfl (lsame_cons rfl (lsame_cons rfl lsame_nil)))) ?_
            exact hj18
          · have h := ip h c20
            refine G_iconst (v := 0) hc dX6_runsOf_47 (by decide) ?_
            refine G_goto (tgt := 52) hc dX6_runsOf_48 (by decide) ?_
            have h := Option.some.inj h
            subst h
            refine G_lv (lv' := [(0, .ref h_m), (1, .ref h_m_now), (2, .int a2), (4, .int u7)]) (lsame_cons rfl (lsame_cons rfl (lsame_cons rfl (lsame_cons rfl lsame_nil)))) ?_
            exact hj18
    refine G_lv (lv' := [(0, .ref h_m), (1, .ref h_m_now), (2, .int a2), (3, .int t2), (4, .int (1 : Int32))]) (lsame_cons rfl (lsame_cons rfl (lsame_cons rfl (lsame_cons rfl (lsame_cons rfl lsame_nil))))) ?_
    exact hL10 F _ _ hl9
  clear h
  have h := hr4
  clear hr4
  refine G_if_ne (tgt := 13) hc dX6_runsOf_6 (by decide) (fun c5 => ?_) (fun c5 => ?_)
  · have h := inn h c5
    refine G_iconst (v := 1) hc dX6_runsOf_13 (by decide) ?_
    have h := Option.some.inj h
    subst h
    refine G_lv (lv' := [(0, .ref h_m), (1, .ref h_m_now), (2, .int a2)]) (lsame_cons rfl (lsame_cons rfl (lsame_cons rfl lsame_nil))) ?_
    exact hj3
  · have h := ip h c5
    refine G_iconst (v := 0) hc dX6_runsOf_9 (by decide) ?_
    refine G_goto (tgt := 14) hc dX6_runsOf_10 (by decide) ?_
    have h := Option.some.inj h
    subst h
    refine G_lv (lv' := [(0, .ref h_m), (1, .ref h_m_now), (2, .int a2)]) (lsame_cons rfl (lsame_cons rfl (lsame_cons rfl lsame_nil))) ?_
    exact hj3
set_option maxHeartbeats 4000000 in
set_option maxRecDepth 100000 in
theorem c_X6_told_m_now (l : Launch) (D : va_G) (cI cS : ClassId) (X : XP) (F : Nat) (h_m h_m_s h_m_past h_m_held h_m_text h_m_now h_m_kept : Nat) (m_pasts : Int32) (m_runs0 : Int32) (m_typed : Int32) (m_spot : Int32) (m_reason : Int32) (m_cause : Int32) (m_orders : Int32) (m_kindNow : Int32) (m_placeNow : Int32) (m_s : Nat → Int32) (m_past : Nat → Int32) (m_held : Nat → Int32) (m_text : Nat → Int32) (m_now : Nat → Int32) (m_kept : Nat → Int32) (a2 : Int32) (a3 : Int32) (a4 : Int32) (a5 : Int32) {res : Int32} (h : f_X6_told_m_now F m_s m_now a2 a3 a4 a5 = some res) : CtI l D cI cS X yX6_told cX6_told 8 (some .int) 2 [.ref h_m, .ref h_m_now, .int a2, .int a3, .int a4, .int a5] [(h_m, .inr (6, [.ref h_m_s, .ref h_m_past, .ref h_m_held, .int m_pasts, .int m_runs0, .ref h_m_text, .int m_typed, .ref h_m_now, .ref h_m_kept, .int m_spot, .int m_reason, .int m_cause, .int m_orders, .int m_kindNow, .int m_placeNow])), (h_m_s, .inl (cI, 116, .inl m_s)), (h_m_past, .inl (cI, 464, .inl m_past)), (h_m_held, .inl (cI, 116, .inl m_held)), (h_m_text, .inl (cI, 60, .inl m_text)), (h_m_now, .inl (cI, 10, .inl m_now)), (h_m_kept, .inl (cI, 16, .inl m_kept))] (PoI res [(h_m, .inr (6, [.ref h_m_s, .ref h_m_past, .ref h_m_held, .int m_pasts, .int m_runs0, .ref h_m_text, .int m_typed, .ref h_m_now, .ref h_m_kept, .int m_spot, .int m_reason, .int m_cause, .int m_orders, .int m_kindNow, .int m_placeNow])), (h_m_s, .inl (cI, 116, .inl m_s)), (h_m_past, .inl (cI, 464, .inl m_past)), (h_m_held, .inl (cI, 116, .inl m_held)), (h_m_text, .inl (cI, 60, .inl m_text)), (h_m_now, .inl (cI, 10, .inl m_now)), (h_m_kept, .inl (cI, 16, .inl m_kept))]) := by
  refine CtI.of (by decide +kernel) rfl ?_
  intro p e s m below meth c A hc
  refine G_lv (lv' := [(0, .ref h_m), (1, .ref h_m_now), (2, .int a2), (3, .int a3), (4, .int a4), (5, .int a5)]) (lsame_cons rfl (lsame_cons rfl (lsame_cons rfl (lsame_cons rfl (lsame_cons rfl (lsame_cons rfl lsame_nil)))))) ?_
  unfold f_X6_told_m_now at h
  refine G_iload_n hc dX6_told_0 rfl ?_
  refine G_if_ne (tgt := 23) hc dX6_told_1 (by decide) (fun c34 => ?_) (fun c34 => ?_)
  · have h := inn h c34
    refine G_iload_n hc dX6_told_23 rfl ?_
    refine G_iconst (v := 1) hc dX6_told_24 (by decide) ?_
    refine G_icmp_ne (tgt := 35) hc dX6_told_25 (by decide) (fun c30 => ?_) (fun c30 => ?_)
    · have h := inn h c30
      refine G_iconst (v := 0) hc dX6_told_35 (by decide) ?_
      refine G_istore (lv' := [(0, .ref h_m), (1, .ref h_m_now), (2, .int a2), (3, .int a3), (4, .int a4), (5, .int a5), (6, .int (0 : Int32))]) hc dX6_told_36 rfl rfl ?_
      refine G_iconst (v := 0) hc dX6_told_38 (by decide) ?_
      refine G_istore (lv' := [(0, .ref h_m), (1, .ref h_m_now), (2, .int a2), (3, .int a3), (4, .int a4), (5, .int a5), (6, .int (0 : Int32)), (7, .int (0 : Int32))]) hc dX6_told_39 rfl rfl ?_
      obtain ⟨e3, hl4, h⟩ := ob h
      have hK8 : G p l e (rmk 2) s m [.ref h_m, .ref h_m_now, .int a2, .int a3, .int a4, .int a5].toArray below meth c D A 8 0 0 (QI below [.ref h_m, .ref h_m_now, .int a2, .int a3, .int a4, .int a5].toArray s D A (PoI res [(h_m, .inr (6, [.ref h_m_s, .ref h_m_past, .ref h_m_held, .int m_pasts, .int m_runs0, .ref h_m_text, .int m_typed, .ref h_m_now, .ref h_m_kept, .int m_spot, .int m_reason, .int m_cause, .int m_orders, .int m_kindNow, .int m_placeNow])), (h_m_s, .inl (cI, 116, .inl m_s)), (h_m_past, .inl (cI, 464, .inl m_past)), (h_m_held, .inl (cI, 116, .inl m_held)), (h_m_text, .inl (cI, 60, .inl m_text)), (h_m_now, .inl (cI, 10, .inl m_now)), (h_m_kept, .inl (cI, 16, .inl m_kept))])) [(h_m, .inr (6, [.ref h_m_s, .ref h_m_past, .ref h_m_held, .int m_pasts, .int m_runs0, .ref h_m_text, .int m_typed, .ref h_m_now, .ref h_m_kept, .int m_spot, .int m_reason, .int m_cause, .int m_orders, .int m_kindNow, .int m_placeNow])), (h_m_s, .inl (cI, 116, .inl m_s)), (h_m_past, .inl (cI, 464, .inl m_past)), (h_m_held, .inl (cI, 116, .inl m_held)), (h_m_text, .inl (cI, 60, .inl m_text)), (h_m_now, .inl (cI, 10, .inl m_now)), (h_m_kept, .inl (cI, 16, .inl m_kept))] [(6, .int e3)] 128 [] := by
        refine G_iload hc dX6_told_128 rfl ?_
        have h := Option.some.inj h
        subst h
        exact G_ireturn hc ⟨rfl, rfl⟩ dX6_told_130
      clear h
      have hL5 : ∀ (n6 : Nat) (u1 : Int32) (u2 : Int32), f_X6_told_m_now_L41 F m_s m_now a2 a3 a4 n6 u1 u2 = some e3 → G p l e (rmk 2) s m [.ref h_m, .ref h_m_now, .int a2, .int a3, .int a4, .int a5].toArray below meth c D A 8 0 0 (QI below [.ref h_m, .ref h_m_now, .int a2, .int a3, .int a4, .int a5].toArray s D A (PoI res [(h_m, .inr (6, [.ref h_m_s, .ref h_m_past, .ref h_m_held, .int m_pasts, .int m_runs0, .ref h_m_text, .int m_typed, .ref h_m_now, .ref h_m_kept, .int m_spot, .int m_reason, .int m_cause, .int m_orders, .int m_kindNow, .int m_placeNow])), (h_m_s, .inl (cI, 116, .inl m_s)), (h_m_past, .inl (cI, 464, .inl m_past)), (h_m_held, .inl (cI, 116, .inl m_held)), (h_m_text, .inl (cI, 60, .inl m_text)), (h_m_now, .inl (cI, 10, .inl m_now)), (h_m_kept, .inl (cI, 16, .inl m_kept))])) [(h_m, .inr (6, [.ref h_m_s, .ref h_m_past, .ref h_m_held, .int m_pasts, .int m_runs0, .ref h_m_text, .int m_typed, .ref h_m_now, .ref h_m_kept, .int m_spot, .int m_reason, .int m_cause, .int m_orders, .int m_kindNow, .int m_placeNow])), (h_m_s, .inl (cI, 116, .inl m_s)), (h_m_past, .inl (cI, 464, .inl m_past)), (h_m_held, .inl (cI, 116, .inl m_held)), (h_m_text, .inl (cI, 60, .inl m_text)), (h_m_now, .inl (cI, 10, .inl m_now)), (h_m_kept, .inl (cI, 16, .inl m_kept))] [(0, .ref h_m), (1, .ref h_m_now), (2, .int a2), (3, .int a3), (4, .int a4), (6, .int u1), (7, .int u2)] 41 [] := by
        intro n6
        induction n6 with
        | zero =>
          intro u1 u2 h
          exact nz h
        | succ n6 ih7 =>
          intro u1 u2 h
          rw [f_X6_told_m_now_L41] at h
          refine G_iload hc dX6_told_41 rfl ?_
          refine G_iload_n hc dX6_told_43 rfl ?_
          refine G_iconst (v := 2) hc dX6_told_44 (by decide) ?_
          obtain ⟨t9, hr11, h⟩ := ob h
          have hj10 : G p l e (rmk 2) s m [.ref h_m, .ref h_m_now, .int a2, .int a3, .int a4, .int a5].toArray below meth c D A 8 0 0 (QI below [.ref h_m, .ref h_m_now, .int a2, .int a3, .int a4, .int a5].toArray s D A (PoI res [(h_m, .inr (6, [.ref h_m_s, .ref h_m_past, .ref h_m_held, .int m_pasts, .int m_runs0, .ref h_m_text, .int m_typed, .ref h_m_now, .ref h_m_kept, .int m_spot, .int m_reason, .int m_cause, .int m_orders, .int m_kindNow, .int m_placeNow])), (h_m_s, .inl (cI, 116, .inl m_s)), (h_m_past, .inl (cI, 464, .inl m_past)), (h_m_held, .inl (cI, 116, .inl m_held)), (h_m_text, .inl (cI, 60, .inl m_text)), (h_m_now, .inl (cI, 10, .inl m_now)), (h_m_kept, .inl (cI, 16, .inl m_kept))])) [(h_m, .inr (6, [.ref h_m_s, .ref h_m_past, .ref h_m_held, .int m_pasts, .int m_runs0, .ref h_m_text, .int m_typed, .ref h_m_now, .ref h_m_kept, .int m_spot, .int m_reason, .int m_cause, .int m_orders, .int m_kindNow, .int m_placeNow])), (h_m_s, .inl (cI, 116, .inl m_s)), (h_m_past, .inl (cI, 464, .inl m_past)), (h_m_held, .inl (cI, 116, .inl m_held)), (h_m_text, .inl (cI, 60, .inl m_text)), (h_m_now, .inl (cI, 10, .inl m_now)), (h_m_kept, .inl (cI, 16, .inl m_kept))] [(0, .ref h_m), (1, .ref h_m_now), (2, .int a2), (3, .int a3), (4, .int a4), (6, .int u1), (7, .int u2)] 65 [.int t9, .int u2] := by
            refine G_icmp_ge (tgt := 128) hc dX6_told_65 (by decide) (fun c27 => ?_) (fun c27 => ?_)
            · have h := ip h c27
              have h := Option.some.inj h
              subst h
              refine G_lv (lv' := [(6, .int u1)]) (lsame_cons rfl lsame_nil) ?_
              exact hK8
            · have h := inn h c27
              refine G_iload hc dX6_told_68 rfl ?_
              refine G_iload_n hc dX6_told_70 rfl ?_
              refine G_iconst (v := 2) hc dX6_told_71 (by decide) ?_
              obtain ⟨t15, hr17, h⟩ := ob h
              have hj16 : G p l e (rmk 2) s m [.ref h_m, .ref h_m_now, .int a2, .int a3, .int a4, .int a5].toArray below meth c D A 8 0 0 (QI below [.ref h_m, .ref h_m_now, .int a2, .int a3, .int a4, .int a5].toArray s D A (PoI res [(h_m, .inr (6, [.ref h_m_s, .ref h_m_past, .ref h_m_held, .int m_pasts, .int m_runs0, .ref h_m_text, .int m_typed, .ref h_m_now, .ref h_m_kept, .int m_spot, .int m_reason, .int m_cause, .int m_orders, .int m_kindNow, .int m_placeNow])), (h_m_s, .inl (cI, 116, .inl m_s)), (h_m_past, .inl (cI, 464, .inl m_past)), (h_m_held, .inl (cI, 116, .inl m_held)), (h_m_text, .inl (cI, 60, .inl m_text)), (h_m_now, .inl (cI, 10, .inl m_now)), (h_m_kept, .inl (cI, 16, .inl m_kept))])) [(h_m, .inr (6, [.ref h_m_s, .ref h_m_past, .ref h_m_held, .int m_pasts, .int m_runs0, .ref h_m_text, .int m_typed, .ref h_m_now, .ref h_m_kept, .int m_spot, .int m_reason, .int m_cause, .int m_orders, .int m_kindNow, .int m_placeNow])), (h_m_s, .inl (cI, 116, .inl m_s)), (h_m_past, .inl (cI, 464, .inl m_past)), (h_m_held, .inl (cI, 116, .inl m_held)), (h_m_text, .inl (cI, 60, .inl m_text)), (h_m_now, .inl (cI, 10, .inl m_now)), (h_m_kept, .inl (cI, 16, .inl m_kept))] [(0, .ref h_m), (1, .ref h_m_now), (2, .int a2), (3, .int a3), (4, .int a4), (7, .int u2)] 119 [.int t15, .int u1] := by
                refine G_iadd hc dX6_told_119 ?_
                obtain ⟨v25, e_v25, h⟩ := sb h
                refine G_top e_v25 ?_
                refine G_istore (lv' := [(0, .ref h_m), (1, .ref h_m_now), (2, .int a2), (3, .int a3), (4, .int a4), (7, .int u2), (6, .int v25)]) hc dX6_told_120 rfl rfl ?_
                obtain ⟨v26, e_v26, h⟩ := sb h
                refine G_iinc (v := v26) (lv' := [(0, .ref h_m), (1, .ref h_m_now), (2, .int a2), (3, .int a3), (4, .int a4), (7, .int v26), (6, .int v25)]) hc dX6_told_122 rfl (e_v26.trans rfl) rfl rfl ?_
                refine G_goto (tgt := 41) hc dX6_told_125 (by decide) ?_
                refine G_lv (lv' := [(0, .ref h_m), (1, .ref h_m_now), (2, .int a2), (3, .int a3), (4, .int a4), (6, .int v25), (7, .int v26)]) (lsame_cons rfl (lsame_cons rfl (lsame_cons rfl (lsame_cons rfl (lsame_cons rfl (lsame_cons rfl (lsame_cons rfl lsame_nil))))))) ?_
                exact ih7 _ _ h
              clear h
              have h := hr17
              clear hr17
              refine G_icmp_ne (tgt := 101) hc dX6_told_72 (by decide) (fun c24 => ?_) (fun c24 => ?_)
              · have h := inn h c24
                refine G_aload_n hc dX6_told_101 rfl ?_
                refine G_aload_n hc dX6_told_102 rfl ?_
                refine G_iload_n hc dX6_told_103 rfl ?_
                refine G_iload hc dX6_told_104 rfl ?_
                obtain ⟨z18, hu19, h⟩ := ob h
                refine G_callVI (ws2 := [(h_m, .inr (6, [.ref h_m_s, .ref h_m_past, .ref h_m_held, .int m_pasts, .int m_runs0, .ref h_m_text, .int m_typed, .ref h_m_now, .ref h_m_kept, .int m_spot, .int m_reason, .int m_cause, .int m_orders, .int m_kindNow, .int m_placeNow])), (h_m_s, .inl (cI, 116, .inl m_s)), (h_m_past, .inl (cI, 464, .inl m_past)), (h_m_held, .inl (cI, 116, .inl m_held)), (h_m_text, .inl (cI, 60, .inl m_text)), (h_m_now, .inl (cI, 10, .inl m_now)), (h_m_kept, .inl (cI, 16, .inl m_kept))]) hc m_X6_70 (c_X6_codeAt_m_now l D cI cS X F h_m h_m_s h_m_past h_m_held h_m_text h_m_now h_m_kept m_pasts m_runs0 m_typed m_spot m_reason m_cause m_orders m_kindNow m_placeNow m_s m_past m_held m_text m_now m_kept a2 u2 hu19) 0 [0, 1, 2, 3, 4, 5, 6] rfl rfl (rmok_of (Nat.le_of_ble_eq_true rfl)) ⟨Nat.zero_le _, Nat.zero_le _⟩ rfl rfl rfl rfl rfl ⟨rfl, rfl, rfl⟩ dX6_told_106 ?_
                refine G_iload hc dX6_told_109 rfl ?_
                refine G_icmp_ne (tgt := 118) hc dX6_told_111 (by decide) (fun c20 => ?_) (fun c20 => ?_)
                · have h := inn h c20
                  refine G_iconst (v := 0) hc dX6_told_118 (by decide) ?_
                  have h := Option.some.inj h
                  subst h
                  refine G_lv (lv' := [(0, .ref h_m), (1, .ref h_m_now), (2, .int a2), (3, .int a3), (4, .int a4), (7, .int u2)]) (lsame_cons rfl (lsame_cons rfl (lsame_cons rfl (lsame_cons rfl (lsame_cons rfl (lsame_cons rfl lsame_nil)))))) ?_
                  exact hj16
                · have h := ip h c20
                  refine G_iconst (v := 1) hc dX6_told_114 (by decide) ?_
                  refine G_goto (tgt := 119) hc dX6_told_115 (by decide) ?_
                  have h := Option.some.inj h
                  subst h
                  refine G_lv (lv' := [(0, .ref h_m), (1, .ref h_m_now), (2, .int a2), (3, .int a3), (4, .int a4), (7, .int u2)]) (lsame_cons rfl (lsame_cons rfl (lsame_cons rfl (lsame_cons rfl (lsame_cons rfl (lsame_cons rfl lsame_nil)))))) ?_
                  exact hj16
              · have h := ip h c24
                refine G_aload_n hc dX6_told_75 rfl ?_
                refine G_iload_n hc dX6_told_76 rfl ?_
                refine G_iload hc dX6_told_77 rfl ?_
                refine G_iadd hc dX6_told_79 ?_
                obtain ⟨v21, i_v21, e_v21, h⟩ := rb h
                refine G_iald hc 5 rfl i_v21 e_v21 dX6_told_80 ?_
                refine G_aload_n hc dX6_told_81 rfl ?_
                refine G_get hc f_X6_7 0 rfl rfl dX6_told_82 ?_
                refine G_iconst (v := 1) hc dX6_told_85 (by decide) ?_
                refine G_iload hc dX6_told_86 rfl ?_
                refine G_iadd hc dX6_told_88 ?_
                obtain ⟨v22, i_v22, e_v22, h⟩ := rb h
                refine G_iald hc 1 rfl i_v22 e_v22 dX6_told_89 ?_
                refine G_icmp_ne (tgt := 97) hc dX6_told_90 (by decide) (fun c23 => ?_) (fun c23 => ?_)
                · have h := inn h c23
                  refine G_iconst (v := 0) hc dX6_told_97 (by decide) ?_
                  refine G_goto (tgt := 119) hc dX6_told_98 (by decide) ?_
                  have h := Option.some.inj h
                  subst h
                  refine G_lv (lv' := [(0, .ref h_m), (1, .ref h_m_now), (2, .int a2), (3, .int a3), (4, .int a4), (7, .int u2)]) (lsame_cons rfl (lsame_cons rfl (lsame_cons rfl (lsame_cons rfl (lsame_cons rfl (lsame_cons rfl lsame_nil)))))) ?_
                  exact hj16
                · have h := ip h c23
                  refine G_iconst (v := 1) hc dX6_told_93 (by decide) ?_
                  refine G_goto (tgt := 119) hc dX6_told_94 (by decide) ?_
                  have h := Option.some.inj h
                  subst h
                  refine G_lv (lv' := [(0, .ref h_m), (1, .ref h_m_now), (2, .int a2), (3, .int a3), (4, .int a4), (7, .int u2)]) (lsame_cons rfl (lsame_cons rfl (lsame_cons rfl (lsame_cons rfl (lsame_cons rfl (lsame_cons rfl lsame_nil)))))) ?_
                  exact hj16
          clear h
          have h := hr11
          clear hr11
          refine G_icmp_ne (tgt := 57) hc dX6_told_45 (by decide) (fun c14 => ?_) (fun c14 => ?_)
          · have h := inn h c14
            refine G_aload_n hc dX6_told_57 rfl ?_
            refine G_get hc f_X6_7 0 rfl rfl dX6_told_58 ?_
            refine G_iconst (v := 0) hc dX6_told_61 (by decide) ?_
            obtain ⟨v12, i_v12, e_v12, h⟩ := rb h
            refine G_iald hc 1 rfl i_v12 e_v12 dX6_told_62 ?_
            refine G_iconst (v := 2) hc dX6_told_63 (by decide) ?_
            refine G_idiv hc dX6_told_64 (by decide) ?_
            have h := Option.some.inj h
            subst h
            refine G_lv (lv' := [(0, .ref h_m), (1, .ref h_m_now), (2, .int a2), (3, .int a3), (4, .int a4), (6, .int u1), (7, .int u2)]) (lsame_cons rfl (lsame_cons rfl (lsame_cons rfl (lsame_cons rfl (lsame_cons rfl (lsame_cons rfl (lsame_cons rfl lsame_nil))))))) ?_
            exact hj10
          · have h := ip h c14
            refine G_aload_n hc dX6_told_48 rfl ?_
            refine G_get hc f_X6_7 0 rfl rfl dX6_told_49 ?_
            refine G_iconst (v := 0) hc dX6_told_52 (by decide) ?_
            obtain ⟨v13, i_v13, e_v13, h⟩ := rb h
            refine G_iald hc 1 rfl i_v13 e_v13 dX6_told_53 ?_
            refine G_goto (tgt := 65) hc dX6_told_54 (by decide) ?_
            have h := Option.some.inj h
            subst h
            refine G_lv (lv' := [(0, .ref h_m), (1, .ref h_m_now), (2, .int a2), (3, .int a3), (4, .int a4), (6, .int u1), (7, .int u2)]) (lsame_cons rfl (lsame_cons rfl (lsame_cons rfl (lsame_cons rfl (lsame_cons rfl (lsame_cons rfl (lsame_cons rfl lsame_nil))))))) ?_
            exact hj10
      refine G_lv (lv' := [(0, .ref h_m), (1, .ref h_m_now), (2, .int a2), (3, .int a3), (4, .int a4), (6, .int (0 : Int32)), (7, .int (0 : Int32))]) (lsame_cons rfl (lsame_cons rfl (lsame_cons rfl (lsame_cons rfl (lsame_cons rfl (lsame_cons rfl (lsame_cons rfl lsame_nil))))))) ?_
      exact hL5 F _ _ hl4
    · have h := ip h c30
      refine G_aload_n hc dX6_told_28 rfl ?_
      refine G_aload_n hc dX6_told_29 rfl ?_
      refine G_iload_n hc dX6_told_30 rfl ?_
      obtain ⟨z28, hu29, h⟩ := ob h
      refine G_callVI (ws2 := [(h_m, .inr (6, [.ref h_m_s, .ref h_m_past, .ref h_m_held, .int m_pasts, .int m_runs0, .ref h_m_text, .int m_typed, .ref h_m_now, .ref h_m_kept, .int m_spot, .int m_reason, .int m_cause, .int m_orders, .int m_kindNow, .int m_placeNow])), (h_m_s, .inl (cI, 116, .inl m_s)), (h_m_past, .inl (cI, 464, .inl m_past)), (h_m_held, .inl (cI, 116, .inl m_held)), (h_m_text, .inl (cI, 60, .inl m_text)), (h_m_now, .inl (cI, 10, .inl m_now)), (h_m_kept, .inl (cI, 16, .inl m_kept))]) hc m_X6_107 (c_X6_runsOf_m_now l D cI cS X F h_m h_m_s h_m_past h_m_held h_m_text h_m_now h_m_kept m_pasts m_runs0 m_typed m_spot m_reason m_cause m_orders m_kindNow m_placeNow m_s m_past m_held m_text m_now m_kept a2 hu29) 0 [0, 1, 2, 3, 4, 5, 6] rfl rfl (rmok_of (Nat.le_of_ble_eq_true rfl)) ⟨Nat.zero_le _, Nat.zero_le _⟩ rfl rfl rfl rfl rfl ⟨rfl, rfl, rfl⟩ dX6_told_31 ?_
      have h := Option.some.inj h
      subst h
      exact G_ireturn hc ⟨rfl, rfl⟩ dX6_told_34
  · have h := ip h c34
    refine G_aload_n hc dX6_told_4 rfl ?_
    refine G_iload_n hc dX6_told_5 rfl ?_
    refine G_aload_n hc dX6_told_6 rfl ?_
    refine G_get hc f_X6_7 0 rfl rfl dX6_told_7 ?_
    refine G_iconst (v := 0) hc dX6_told_10 (by decide) ?_
    obtain ⟨v31, i_v31, e_v31, h⟩ := rb h
    refine G_iald hc 1 rfl i_v31 e_v31 dX6_told_11 ?_
    refine G_iconst (v := 4) hc dX6_told_12 (by decide) ?_
    refine G_iload hc dX6_told_13 rfl ?_
    refine G_imul hc dX6_told_15 ?_
    refine G_iload hc dX6_told_16 rfl ?_
    refine G_iadd hc dX6_told_18 ?_
    obtain ⟨z32, hu33, h⟩ := ob h
    refine G_callSI (ws2 := [(h_m, .inr (6, [.ref h_m_s, .ref h_m_past, .ref h_m_held, .int m_pasts, .int m_runs0, .ref h_m_text, .int m_typed, .ref h_m_now, .ref h_m_kept, .int m_spot, .int m_reason, .int m_cause, .int m_orders, .int m_kindNow, .int m_placeNow])), (h_m_s, .inl (cI, 116, .inl m_s)), (h_m_past, .inl (cI, 464, .inl m_past)), (h_m_held, .inl (cI, 116, .inl m_held)), (h_m_text, .inl (cI, 60, .inl m_text)), (h_m_now, .inl (cI, 10, .inl m_now)), (h_m_kept, .inl (cI, 16, .inl m_kept))]) hc m_X6_51 (c_X6_often l D cI cS X F h_m_now 10 m_now a2 v31 (((4 : Int32) * a4) + a5) hu33) [5] (rmok_of (Nat.le_of_ble_eq_true rfl)) ⟨Nat.zero_le _, Nat.zero_le _⟩ rfl rfl rfl rfl rfl ⟨rfl, rfl, rfl⟩ dX6_told_19 ?_
    have h := Option.some.inj h
    subst h
    exact G_ireturn hc ⟨rfl, rfl⟩ dX6_told_22
set_option maxHeartbeats 4000000 in
set_option maxRecDepth 100000 in
theorem c_X6_surprise (l : Launch) (D : va_G) (cI cS : ClassId) (X : XP) (F : Nat) (h_m h_m_s h_m_past h_m_held h_m_text h_m_now h_m_kept : Nat) (m_pasts : Int32) (m_runs0 : Int32) (m_typed : Int32) (m_spot : Int32) (m_reason : Int32) (m_cause : Int32) (m_orders : Int32) (m_kindNow : Int32) (m_placeNow : Int32) (m_s : Nat → Int32) (m_past : Nat → Int32) (m_held : Nat → Int32) (m_text : Nat → Int32) (m_now : Nat → Int32) (m_kept : Nat → Int32) (a1 : Int32) (a2 : Int32) (a3 : Int32) (a4 : Int32) (a5 : Int32) {res : Int32 × (Nat → Int32) × (Nat → Int32)} (h : f_X6_surprise F m_s m_now m_kept a1 a2 a3 a4 a5 = some res) : CtI l D cI cS X yX6_surprise cX6_surprise 15 (some .int) 4 [.ref h_m, .int a1, .int a2, .int a3, .int a4, .int a5] [(h_m, .inr (6, [.ref h_m_s, .ref h_m_past, .ref h_m_held, .int m_pasts, .int m_runs0, .ref h_m_text, .int m_typed, .ref h_m_now, .ref h_m_kept, .int m_spot, .int m_reason, .int m_cause, .int m_orders, .int m_kindNow, .int m_placeNow])), (h_m_s, .inl (cI, 116, .inl m_s)), (h_m_past, .inl (cI, 464, .inl m_past)), (h_m_held, .inl (cI, 116, .inl m_held)), (h_m_text, .inl (cI, 60, .inl m_text)), (h_m_now, .inl (cI, 10, .inl m_now)), (h_m_kept, .inl (cI, 16, .inl m_kept))] (PoI res.1 [(h_m, .inr (6, [.ref h_m_s, .ref h_m_past, .ref h_m_held, .int m_pasts, .int m_runs0, .ref h_m_text, .int m_typed, .ref h_m_now, .ref h_m_kept, .int m_spot, .int m_reason, .int m_cause, .int m_orders, .int m_kindNow, .int m_placeNow])), (h_m_s, .inl (cI, 116, .inl m_s)), (h_m_past, .inl (cI, 464, .inl m_past)), (h_m_held, .inl (cI, 116, .inl m_held)), (h_m_text, .inl (cI, 60, .inl m_text)), (h_m_now, .inl (cI, 10, .inl res.2.1)), (h_m_kept, .inl (cI, 16, .inl res.2.2))]) := by
  refine CtI.of (by decide +kernel) rfl ?_
  intro p e s m below meth c A hc
  refine G_lv (lv' := [(0, .ref h_m), (1, .int a1), (2, .int a2), (3, .int a3), (4, .int a4), (5, .int a5)]) (lsame_cons rfl (lsame_cons rfl (lsame_cons rfl (lsame_cons rfl (lsame_cons rfl (lsame_cons rfl lsame_nil)))))) ?_
  unfold f_X6_surprise at h
  refine G_iload_n hc dX6_surprise_0 rfl ?_
  obtain ⟨z1, hu2, h⟩ := ob h
  refine G_callSI (ws2 := [(h_m, .inr (6, [.ref h_m_s, .ref h_m_past, .ref h_m_held, .int m_pasts, .int m_runs0, .ref h_m_text, .int m_typed, .ref h_m_now, .ref h_m_kept, .int m_spot, .int m_reason, .int m_cause, .int m_orders, .int m_kindNow, .int m_placeNow])), (h_m_s, .inl (cI, 116, .inl m_s)), (h_m_past, .inl (cI, 464, .inl m_past)), (h_m_held, .inl (cI, 116, .inl m_held)), (h_m_text, .inl (cI, 60, .inl m_text)), (h_m_now, .inl (cI, 10, .inl m_now)), (h_m_kept, .inl (cI, 16, .inl m_kept))]) hc m_X6_40 (c_X6_is4 l D cI cS X F a1 hu2) [] (rmok_of (Nat.le_of_ble_eq_true rfl)) ⟨Nat.zero_le _, Nat.zero_le _⟩ rfl rfl rfl rfl rfl ⟨rfl, rfl, rfl⟩ dX6_surprise_1 ?_
  refine G_if_eq (tgt := 39) hc dX6_surprise_4 (by decide) (fun c70 => ?_) (fun c70 => ?_)
  · have h := ip h c70
    refine G_ldc (v := -1000001) hc k_X6_44 dX6_surprise_39 ?_
    have h := Option.some.inj h
    subst h
    exact G_ireturn hc ⟨rfl, rfl⟩ dX6_surprise_41
  · have h := inn h c70
    refine G_iload_n hc dX6_surprise_7 rfl ?_
    obtain ⟨z3, hu4, h⟩ := ob h
    refine G_callSI (ws2 := [(h_m, .inr (6, [.ref h_m_s, .ref h_m_past, .ref h_m_held, .int m_pasts, .int m_runs0, .ref h_m_text, .int m_typed, .ref h_m_now, .ref h_m_kept, .int m_spot, .int m_reason, .int m_cause, .int m_orders, .int m_kindNow, .int m_placeNow])), (h_m_s, .inl (cI, 116, .inl m_s)), (h_m_past, .inl (cI, 464, .inl m_past)), (h_m_held, .inl (cI, 116, .inl m_held)), (h_m_text, .inl (cI, 60, .inl m_text)), (h_m_now, .inl (cI, 10, .inl m_now)), (h_m_kept, .inl (cI, 16, .inl m_kept))]) hc m_X6_40 (c_X6_is4 l D cI cS X F a2 hu4) [] (rmok_of (Nat.le_of_ble_eq_true rfl)) ⟨Nat.zero_le _, Nat.zero_le _⟩ rfl rfl rfl rfl rfl ⟨rfl, rfl, rfl⟩ dX6_surprise_8 ?_
    refine G_if_eq (tgt := 39) hc dX6_surprise_11 (by decide) (fun c69 => ?_) (fun c69 => ?_)
    · have h := ip h c69
      refine G_ldc (v := -1000001) hc k_X6_44 dX6_surprise_39 ?_
      have h := Option.some.inj h
      subst h
      exact G_ireturn hc ⟨rfl, rfl⟩ dX6_surprise_41
    · have h := inn h c69
      refine G_iload_n hc dX6_surprise_14 rfl ?_
      obtain ⟨z5, hu6, h⟩ := ob h
      refine G_callSI (ws2 := [(h_m, .inr (6, [.ref h_m_s, .ref h_m_past, .ref h_m_held, .int m_pasts, .int m_runs0, .ref h_m_text, .int m_typed, .ref h_m_now, .ref h_m_kept, .int m_spot, .int m_reason, .int m_cause, .int m_orders, .int m_kindNow, .int m_placeNow])), (h_m_s, .inl (cI, 116, .inl m_s)), (h_m_past, .inl (cI, 464, .inl m_past)), (h_m_held, .inl (cI, 116, .inl m_held)), (h_m_text, .inl (cI, 60, .inl m_text)), (h_m_now, .inl (cI, 10, .inl m_now)), (h_m_kept, .inl (cI, 16, .inl m_kept))]) hc m_X6_40 (c_X6_is4 l D cI cS X F a3 hu6) [] (rmok_of (Nat.le_of_ble_eq_true rfl)) ⟨Nat.zero_le _, Nat.zero_le _⟩ rfl rfl rfl rfl rfl ⟨rfl, rfl, rfl⟩ dX6_surprise_15 ?_
      refine G_if_eq (tgt := 39) hc dX6_surprise_18 (by decide) (fun c68 => ?_) (fun c68 => ?_)
      · have h := ip h c68
        refine G_ldc (v := -1000001) hc k_X6_44 dX6_surprise_39 ?_
        have h := Option.some.inj h
        subst h
        exact G_ireturn hc ⟨rfl, rfl⟩ dX6_surprise_41
      · have h := inn h c68
        refine G_iload hc dX6_surprise_21 rfl ?_
        obtain ⟨z7, hu8, h⟩ := ob h
        refine G_callSI (ws2 := [(h_m, .inr (6, [.ref h_m_s, .ref h_m_past, .ref h_m_held, .int m_pasts, .int m_runs0, .ref h_m_text, .int m_typed, .ref h_m_now, .ref h_m_kept, .int m_spot, .int m_reason, .int m_cause, .int m_orders, .int m_kindNow, .int m_placeNow])), (h_m_s, .inl (cI, 116, .inl m_s)), (h_m_past, .inl (cI, 464, .inl m_past)), (h_m_held, .inl (cI, 116, .inl m_held)), (h_m_text, .inl (cI, 60, .inl m_text)), (h_m_now, .inl (cI, 10, .inl m_now)), (h_m_kept, .inl (cI, 16, .inl m_kept))]) hc m_X6_40 (c_X6_is4 l D cI cS X F a4 hu8) [] (rmok_of (Nat.le_of_ble_eq_true rfl)) ⟨Nat.zero_le _, Nat.zero_le _⟩ rfl rfl rfl rfl rfl ⟨rfl, rfl, rfl⟩ dX6_surprise_23 ?_
        refine G_if_eq (tgt := 39) hc dX6_surprise_26 (by decide) (fun c67 => ?_) (fun c67 => ?_)
        · have h := ip h c67
          refine G_ldc (v := -1000001) hc k_X6_44 dX6_surprise_39 ?_
          have h := Option.some.inj h
          subst h
          exact G_ireturn hc ⟨rfl, rfl⟩ dX6_surprise_41
        · have h := inn h c67
          refine G_iload hc dX6_surprise_29 rfl ?_
          refine G_iconst (v := 0) hc dX6_surprise_31 (by decide) ?_
          refine G_iconst (v := 4) hc dX6_surprise_32 (by decide) ?_
          obtain ⟨z9, hu10, h⟩ := ob h
          refine G_callSI (ws2 := [(h_m, .inr (6, [.ref h_m_s, .ref h_m_past, .ref h_m_held, .int m_pasts, .int m_runs0, .ref h_m_text, .int m_typed, .ref h_m_now, .ref h_m_kept, .int m_spot, .int m_reason, .int m_cause, .int m_orders, .int m_kindNow, .int m_placeNow])), (h_m_s, .inl (cI, 116, .inl m_s)), (h_m_past, .inl (cI, 464, .inl m_past)), (h_m_held, .inl (cI, 116, .inl m_held)), (h_m_text, .inl (cI, 60, .inl m_text)), (h_m_now, .inl (cI, 10, .inl m_now)), (h_m_kept, .inl (cI, 16, .inl m_kept))]) hc m_X6_28 (c_X6_in l D cI cS X F a5 (0 : Int32) (4 : Int32) hu10) [] (rmok_of (Nat.le_of_ble_eq_true rfl)) ⟨Nat.zero_le _, Nat.zero_le _⟩ rfl rfl rfl rfl rfl ⟨rfl, rfl, rfl⟩ dX6_surprise_33 ?_
          refine G_if_ne (tgt := 42) hc dX6_surprise_36 (by decide) (fun c66 => ?_) (fun c66 => ?_)
          · have h := inn h c66
            refine G_aload_n hc dX6_surprise_42 rfl ?_
            refine G_aload_n hc dX6_surprise_43 rfl ?_
            refine G_get hc f_X6_7 0 rfl rfl dX6_surprise_44 ?_
            refine G_iconst (v := 1) hc dX6_surprise_47 (by decide) ?_
            refine G_iload_n hc dX6_surprise_48 rfl ?_
            refine G_iload_n hc dX6_surprise_49 rfl ?_
            refine G_iload hc dX6_surprise_50 rfl ?_
            obtain ⟨z11, hu12, h⟩ := ob h
            refine G_callVI (ws2 := [(h_m, .inr (6, [.ref h_m_s, .ref h_m_past, .ref h_m_held, .int m_pasts, .int m_runs0, .ref h_m_text, .int m_typed, .ref h_m_now, .ref h_m_kept, .int m_spot, .int m_reason, .int m_cause, .int m_orders, .int m_kindNow, .int m_placeNow])), (h_m_s, .inl (cI, 116, .inl m_s)), (h_m_past, .inl (cI, 464, .inl m_past)), (h_m_held, .inl (cI, 116, .inl m_held)), (h_m_text, .inl (cI, 60, .inl m_text)), (h_m_now, .inl (cI, 10, .inl m_now)), (h_m_kept, .inl (cI, 16, .inl m_kept))]) hc m_X6_111 (c_X6_told_m_s l D cI cS X F h_m h_m_s h_m_past h_m_held h_m_text h_m_now h_m_kept m_pasts m_runs0 m_typed m_spot m_reason m_cause m_orders m_kindNow m_placeNow m_s m_past m_held m_text m_now m_kept (1 : Int32) a2 a3 a4 hu12) 0 [0, 1, 2, 3, 4, 5, 6] rfl rfl (rmok_of (Nat.le_of_ble_eq_true rfl)) ⟨Nat.zero_le _, Nat.zero_le _⟩ rfl rfl rfl rfl rfl ⟨rfl, rfl, rfl⟩ dX6_surprise_52 ?_
            refine G_istore (lv' := [(0, .ref h_m), (1, .int a1), (2, .int a2), (3, .int a3), (4, .int a4), (5, .int a5), (6, .int z11)]) hc dX6_surprise_55 rfl rfl ?_
            refine G_iconst (v := 0) hc dX6_surprise_57 (by decide) ?_
            refine G_istore (lv' := [(0, .ref h_m), (1, .int a1), (2, .int a2), (3, .int a3), (4, .int a4), (5, .int a5), (6, .int z11), (7, .int (0 : Int32))]) hc dX6_surprise_58 rfl rfl ?_
            refine G_iconst (v := 0) hc dX6_surprise_60 (by decide) ?_
            refine G_istore (lv' := [(0, .ref h_m), (1, .int a1), (2, .int a2), (3, .int a3), (4, .int a4), (5, .int a5), (6, .int z11), (7, .int (0 : Int32)), (8, .int (0 : Int32))]) hc dX6_surprise_61 rfl rfl ?_
            refine G_bipush (v := 99) hc dX6_surprise_63 (by decide) ?_
            refine G_istore (lv' := [(0, .ref h_m), (1, .int a1), (2, .int a2), (3, .int a3), (4, .int a4), (5, .int a5), (6, .int z11), (7, .int (0 : Int32)), (8, .int (0 : Int32)), (9, .int (99 : Int32))]) hc dX6_surprise_65 rfl rfl ?_
            refine G_iconst (v := -1) hc dX6_surprise_67 (by decide) ?_
            refine G_istore (lv' := [(0, .ref h_m), (1, .int a1), (2, .int a2), (3, .int a3), (4, .int a4), (5, .int a5), (6, .int z11), (7, .int (0 : Int32)), (8, .int (0 : Int32)), (9, .int (99 : Int32)), (10, .int (-1 : Int32))]) hc dX6_surprise_68 rfl rfl ?_
            refine G_iconst (v := 0) hc dX6_surprise_70 (by decide) ?_
            refine G_istore (lv' := [(0, .ref h_m), (1, .int a1), (2, .int a2), (3, .int a3), (4, .int a4), (5, .int a5), (6, .int z11), (7, .int (0 : Int32)), (8, .int (0 : Int32)), (9, .int (99 : Int32)), (10, .int (-1 : Int32)), (11, .int (0 : Int32))]) hc dX6_surprise_71 rfl rfl ?_
            refine G_iconst (v := 0) hc dX6_surprise_73 (by decide) ?_
            refine G_istore (lv' := [(0, .ref h_m), (1, .int a1), (2, .int a2), (3, .int a3), (4, .int a4), (5, .int a5), (6, .int z11), (7, .int (0 : Int32)), (8, .int (0 : Int32)), (9, .int (99 : Int32)), (10, .int (-1 : Int32)), (11, .int (0 : Int32)), (12, .int (0 : Int32))]) hc dX6_surprise_74 rfl rfl ?_
            refine G_aload_n hc dX6_surprise_76 rfl ?_
            obtain ⟨z13, hu14, h⟩ := ob h
            refine G_callVV (ws2 := [(h_m, .inr (6, [.ref h_m_s, .ref h_m_past, .ref h_m_held, .int m_pasts, .int m_runs0, .ref h_m_text, .int m_typed, .ref h_m_now, .ref h_m_kept, .int m_spot, .int m_reason, .int m_cause, .int m_orders, .int m_kindNow, .int m_placeNow])), (h_m_s, .inl (cI, 116, .inl m_s)), (h_m_past, .inl (cI, 464, .inl m_past)), (h_m_held, .inl (cI, 116, .inl m_held)), (h_m_text, .inl (cI, 60, .inl m_text)), (h_m_now, .inl (cI, 10, .inl z13.1)), (h_m_kept, .inl (cI, 16, .inl z13.2))]) hc m_X6_81 (c_X6_begin l D cI cS X F h_m h_m_s h_m_past h_m_held h_m_text h_m_now h_m_kept m_pasts m_runs0 m_typed m_spot m_reason m_cause m_orders m_kindNow m_placeNow m_s m_past m_held m_text m_now m_kept hu14) 0 [0, 1, 2, 3, 4, 5, 6] rfl rfl (rmok_of (Nat.le_of_ble_eq_true rfl)) ⟨Nat.zero_le _, Nat.zero_le _⟩ rfl rfl rfl rfl rfl ⟨rfl, rfl, rfl⟩ dX6_surprise_77 ?_
            refine G_iconst (v := 1) hc dX6_surprise_80 (by decide) ?_
            refine G_istore (lv' := [(0, .ref h_m), (1, .int a1), (2, .int a2), (3, .int a3), (4, .int a4), (5, .int a5), (6, .int z11), (7, .int (0 : Int32)), (8, .int (0 : Int32)), (9, .int (99 : Int32)), (10, .int (-1 : Int32)), (11, .int (0 : Int32)), (12, .int (0 : Int32)), (13, .int (1 : Int32))]) hc dX6_surprise_81 rfl rfl ?_
            obtain ⟨e23, hl24, h⟩ := ob h
            have hK28 : G p l e (rmk 4) s m [.ref h_m, .int a1, .int a2, .int a3, .int a4, .int a5].toArray below meth c D A 15 0 0 (QI below [.ref h_m, .int a1, .int a2, .int a3, .int a4, .int a5].toArray s D A (PoI res.1 [(h_m, .inr (6, [.ref h_m_s, .ref h_m_past, .ref h_m_held, .int m_pasts, .int m_runs0, .ref h_m_text, .int m_typed, .ref h_m_now, .ref h_m_kept, .int m_spot, .int m_reason, .int m_cause, .int m_orders, .int m_kindNow, .int m_placeNow])), (h_m_s, .inl (cI, 116, .inl m_s)), (h_m_past, .inl (cI, 464, .inl m_past)), (h_m_held, .inl (cI, 116, .inl m_held)), (h_m_text, .inl (cI, 60, .inl m_text)), (h_m_now, .inl (cI, 10, .inl res.2.1)), (h_m_kept, .inl (cI, 16, .inl res.2.2))])) [(h_m, .inr (6, [.ref h_m_s, .ref h_m_past, .ref h_m_held, .int m_pasts, .int m_runs0, .ref h_m_text, .int m_typed, .ref h_m_now, .ref h_m_kept, .int m_spot, .int m_reason, .int m_cause, .int m_orders, .int m_kindNow, .int m_placeNow])), (h_m_s, .inl (cI, 116, .inl m_s)), (h_m_past, .inl (cI, 464, .inl m_past)), (h_m_held, .inl (cI, 116, .inl m_held)), (h_m_text, .inl (cI, 60, .inl m_text)), (h_m_now, .inl (cI, 10, .inl e23.2.2.2.2.2)), (h_m_kept, .inl (cI, 16, .inl z13.2))] [(5, .int a5), (8, .int e23.1), (9, .int e23.2.1), (10, .int e23.2.2.1), (11, .int e23.2.2.2.1), (12, .int e23.2.2.2.2.1)] 195 [] := by
              refine G_iload hc dX6_surprise_195 rfl ?_
              obtain ⟨t59, hr61, h⟩ := ob h
              have hj60 : G p l e (rmk 4) s m [.ref h_m, .int a1, .int a2, .int a3, .int a4, .int a5].toArray below meth c D A 15 0 0 (QI below [.ref h_m, .int a1, .int a2, .int a3, .int a4, .int a5].toArray s D A (PoI res.1 [(h_m, .inr (6, [.ref h_m_s, .ref h_m_past, .ref h_m_held, .int m_pasts, .int m_runs0, .ref h_m_text, .int m_typed, .ref h_m_now, .ref h_m_kept, .int m_spot, .int m_reason, .int m_cause, .int m_orders, .int m_kindNow, .int m_placeNow])), (h_m_s, .inl (cI, 116, .inl m_s)), (h_m_past, .inl (cI, 464, .inl m_past)), (h_m_held, .inl (cI, 116, .inl m_held)), (h_m_text, .inl (cI, 60, .inl m_text)), (h_m_now, .inl (cI, 10, .inl res.2.1)), (h_m_kept, .inl (cI, 16, .inl res.2.2))])) [(h_m, .inr (6, [.ref h_m_s, .ref h_m_past, .ref h_m_held, .int m_pasts, .int m_runs0, .ref h_m_text, .int m_typed, .ref h_m_now, .ref h_m_kept, .int m_spot, .int m_reason, .int m_cause, .int m_orders, .int m_kindNow, .int m_placeNow])), (h_m_s, .inl (cI, 116, .inl m_s)), (h_m_past, .inl (cI, 464, .inl m_past)), (h_m_held, .inl (cI, 116, .inl m_held)), (h_m_text, .inl (cI, 60, .inl m_text)), (h_m_now, .inl (cI, 10, .inl e23.2.2.2.2.2)), (h_m_kept, .inl (cI, 16, .inl z13.2))] [] 240 [.int t59] := by
                have h := Option.some.inj h
                subst h
                exact G_ireturn hc ⟨rfl, rfl⟩ dX6_surprise_240
              clear h
              have h := hr61
              clear hr61
              refine G_if_ne (tgt := 205) hc dX6_surprise_197 (by decide) (fun c65 => ?_) (fun c65 => ?_)
              · have h := inn h c65
                refine G_iload hc dX6_surprise_205 rfl ?_
                refine G_iconst (v := 1) hc dX6_surprise_207 (by decide) ?_
                refine G_icmp_ne (tgt := 216) hc dX6_surprise_208 (by decide) (fun c64 => ?_) (fun c64 => ?_)
                · have h := inn h c64
                  refine G_iload hc dX6_surprise_216 rfl ?_
                  refine G_iconst (v := 2) hc dX6_surprise_218 (by decide) ?_
                  refine G_icmp_ne (tgt := 227) hc dX6_surprise_219 (by decide) (fun c63 => ?_) (fun c63 => ?_)
                  · have h := inn h c63
                    refine G_iload hc dX6_surprise_227 rfl ?_
                    refine G_iconst (v := 3) hc dX6_surprise_229 (by decide) ?_
                    refine G_icmp_ne (tgt := 238) hc dX6_surprise_230 (by decide) (fun c62 => ?_) (fun c62 => ?_)
                    · have h := inn h c62
                      refine G_iload hc dX6_surprise_238 rfl ?_
                      have h := Option.some.inj h
                      subst h
                      refine G_lv (lv' := []) lsame_nil ?_
                      exact hj60
                    · have h := ip h c62
                      refine G_iload hc dX6_surprise_233 rfl ?_
                      refine G_goto (tgt := 240) hc dX6_surprise_235 (by decide) ?_
                      have h := Option.some.inj h
                      subst h
                      refine G_lv (lv' := []) lsame_nil ?_
                      exact hj60
                  · have h := ip h c63
                    refine G_iload hc dX6_surprise_222 rfl ?_
                    refine G_goto (tgt := 240) hc dX6_surprise_224 (by decide) ?_
                    have h := Option.some.inj h
                    subst h
                    refine G_lv (lv' := []) lsame_nil ?_
                    exact hj60
                · have h := ip h c64
                  refine G_iload hc dX6_surprise_211 rfl ?_
                  refine G_goto (tgt := 240) hc dX6_surprise_213 (by decide) ?_
                  have h := Option.some.inj h
                  subst h
                  refine G_lv (lv' := []) lsame_nil ?_
                  exact hj60
              · have h := ip h c65
                refine G_iload hc dX6_surprise_200 rfl ?_
                refine G_goto (tgt := 240) hc dX6_surprise_202 (by decide) ?_
                have h := Option.some.inj h
                subst h
                refine G_lv (lv' := []) lsame_nil ?_
                exact hj60
            clear h
            have hL25 : ∀ (n26 : Nat) (u15 : Int32) (u16 : Int32) (u17 : Int32) (u18 : Int32) (u19 : Int32) (u20 : Int32) (u21 : Int32) (u22 : Nat → Int32), f_X6_surprise_L83 F m_s a1 a2 a3 a4 z11 z13 n26 u15 u16 u17 u18 u19 u20 u21 u22 = some e23 → G p l e (rmk 4) s m [.ref h_m, .int a1, .int a2, .int a3, .int a4, .int a5].toArray below meth c D A 15 0 0 (QI below [.ref h_m, .int a1, .int a2, .int a3, .int a4, .int a5].toArray s D A (PoI res.1 [(h_m, .inr (6, [.ref h_m_s, .ref h_m_past, .ref h_m_held, .int m_pasts, .int m_runs0, .ref h_m_text, .int m_typed, .ref h_m_now, .ref h_m_kept, .int m_spot, .int m_reason, .int m_cause, .int m_orders, .int m_kindNow, .int m_placeNow])), (h_m_s, .inl (cI, 116, .inl m_s)), (h_m_past, .inl (cI, 464, .inl m_past)), (h_m_held, .inl (cI, 116, .inl m_held)), (h_m_text, .inl (cI, 60, .inl m_text)), (h_m_now, .inl (cI, 10, .inl res.2.1)), (h_m_kept, .inl (cI, 16, .inl res.2.2))])) [(h_m, .inr (6, [.ref h_m_s, .ref h_m_past, .ref h_m_held, .int m_pasts, .int m_runs0, .ref h_m_text, .int m_typed, .ref h_m_now, .ref h_m_kept, .int m_spot, .int m_reason, .int m_cause, .int m_orders, .int m_kindNow, .int m_placeNow])), (h_m_s, .inl (cI, 116, .inl m_s)), (h_m_past, .inl (cI, 464, .inl m_past)), (h_m_held, .inl (cI, 116, .inl m_held)), (h_m_text, .inl (cI, 60, .inl m_text)), (h_m_now, .inl (cI, 10, .inl u22)), (h_m_kept, .inl (cI, 16, .inl z13.2))] [(0, .ref h_m), (1, .int a1), (2, .int a2), (3, .int a3), (4, .int a4), (5, .int a5), (6, .int z11), (7, .int u15), (8, .int u16), (9, .int u17), (10, .int u18), (11, .int u19), (12, .int u20), (13, .int u21)] 83 [] := by
              intro n26
              induction n26 with
              | zero =>
                intro u15 u16 u17 u18 u19 u20 u21 u22 h
                exact nz h
              | succ n26 ih27 =>
                intro u15 u16 u17 u18 u19 u20 u21 u22 h
                rw [f_X6_surprise_L83] at h
                refine G_iload hc dX6_surprise_83 rfl ?_
                refine G_if_eq (tgt := 195) hc dX6_surprise_85 (by decide) (fun c58 => ?_) (fun c58 => ?_)
                · have h := ip h c58
                  have h := Option.some.inj h
                  subst h
                  refine G_lv (lv' := [(5, .int a5), (8, .int u16), (9, .int u17), (10, .int u18), (11, .int u19), (12, .int u20)]) (lsame_cons rfl (lsame_cons rfl (lsame_cons rfl (lsame_cons rfl (lsame_cons rfl (lsame_cons rfl lsame_nil)))))) ?_
                  exact hK28
                · have h := inn h c58
                  refine G_aload_n hc dX6_surprise_88 rfl ?_
                  refine G_iload_n hc dX6_surprise_89 rfl ?_
                  obtain ⟨z29, hu30, h⟩ := ob h
                  refine G_callVI (ws2 := [(h_m, .inr (6, [.ref h_m_s, .ref h_m_past, .ref h_m_held, .int m_pasts, .int m_runs0, .ref h_m_text, .int m_typed, .ref h_m_now, .ref h_m_kept, .int m_spot, .int m_reason, .int m_cause, .int m_orders, .int m_kindNow, .int m_placeNow])), (h_m_s, .inl (cI, 116, .inl m_s)), (h_m_past, .inl (cI, 464, .inl m_past)), (h_m_held, .inl (cI, 116, .inl m_held)), (h_m_text, .inl (cI, 60, .inl m_text)), (h_m_now, .inl (cI, 10, .inl u22)), (h_m_kept, .inl (cI, 16, .inl z13.2))]) hc m_X6_84 (c_X6_isOne l D cI cS X F h_m h_m_s h_m_past h_m_held h_m_text h_m_now h_m_kept m_pasts m_runs0 m_typed m_spot m_reason m_cause m_orders m_kindNow m_placeNow m_s m_past m_held m_text u22 z13.2 a1 hu30) 0 [0, 1, 2, 3, 4, 5, 6] rfl rfl (rmok_of (Nat.le_of_ble_eq_true rfl)) ⟨Nat.zero_le _, Nat.zero_le _⟩ rfl rfl rfl rfl rfl ⟨rfl, rfl, rfl⟩ dX6_surprise_90 ?_
                  obtain ⟨t31, hr33, h⟩ := ob h
                  have hj32 : G p l e (rmk 4) s m [.ref h_m, .int a1, .int a2, .int a3, .int a4, .int a5].toArray below meth c D A 15 0 0 (QI below [.ref h_m, .int a1, .int a2, .int a3, .int a4, .int a5].toArray s D A (PoI res.1 [(h_m, .inr (6, [.ref h_m_s, .ref h_m_past, .ref h_m_held, .int m_pasts, .int m_runs0, .ref h_m_text, .int m_typed, .ref h_m_now, .ref h_m_kept, .int m_spot, .int m_reason, .int m_cause, .int m_orders, .int m_kindNow, .int m_placeNow])), (h_m_s, .inl (cI, 116, .inl m_s)), (h_m_past, .inl (cI, 464, .inl m_past)), (h_m_held, .inl (cI, 116, .inl m_held)), (h_m_text, .inl (cI, 60, .inl m_text)), (h_m_now, .inl (cI, 10, .inl res.2.1)), (h_m_kept, .inl (cI, 16, .inl res.2.2))])) [(h_m, .inr (6, [.ref h_m_s, .ref h_m_past, .ref h_m_held, .int m_pasts, .int m_runs0, .ref h_m_text, .int m_typed, .ref h_m_now, .ref h_m_kept, .int m_spot, .int m_reason, .int m_cause, .int m_orders, .int m_kindNow, .int m_placeNow])), (h_m_s, .inl (cI, 116, .inl m_s)), (h_m_past, .inl (cI, 464, .inl m_past)), (h_m_held, .inl (cI, 116, .inl m_held)), (h_m_text, .inl (cI, 60, .inl m_text)), (h_m_now, .inl (cI, 10, .inl u22)), (h_m_kept, .inl (cI, 16, .inl z13.2))] [(0, .ref h_m), (1, .int a1), (2, .int a2), (3, .int a3), (4, .int a4), (5, .int a5), (6, .int z11), (7, .int t31.1), (8, .int t31.2.1), (9, .int t31.2.2.1), (10, .int t31.2.2.2.1), (11, .int t31.2.2.2.2.1), (12, .int t31.2.2.2.2.2)] 186 [] := by
                    refine G_aload_n hc dX6_surprise_186 rfl ?_
                    obtain ⟨z56, hu57, h⟩ := ob h
                    refine G_callVI (ws2 := [(h_m, .inr (6, [.ref h_m_s, .ref h_m_past, .ref h_m_held, .int m_pasts, .int m_runs0, .ref h_m_text, .int m_typed, .ref h_m_now, .ref h_m_kept, .int m_spot, .int m_reason, .int m_cause, .int m_orders, .int m_kindNow, .int m_placeNow])), (h_m_s, .inl (cI, 116, .inl m_s)), (h_m_past, .inl (cI, 464, .inl m_past)), (h_m_held, .inl (cI, 116, .inl m_held)), (h_m_text, .inl (cI, 60, .inl m_text)), (h_m_now, .inl (cI, 10, .inl z56.2)), (h_m_kept, .inl (cI, 16, .inl z13.2))]) hc m_X6_87 (c_X6_goes l D cI cS X F h_m h_m_s h_m_past h_m_held h_m_text h_m_now h_m_kept m_pasts m_runs0 m_typed m_spot m_reason m_cause m_orders m_kindNow m_placeNow m_s m_past m_held m_text u22 z13.2 hu57) 0 [0, 1, 2, 3, 4, 5, 6] rfl rfl (rmok_of (Nat.le_of_ble_eq_true rfl)) ⟨Nat.zero_le _, Nat.zero_le _⟩ rfl rfl rfl rfl rfl ⟨rfl, rfl, rfl⟩ dX6_surprise_187 ?_
                    refine G_istore (lv' := [(0, .ref h_m), (1, .int a1), (2, .int a2), (3, .int a3), (4, .int a4), (5, .int a5), (6, .int z11), (7, .int t31.1), (8, .int t31.2.1), (9, .int t31.2.2.1), (10, .int t31.2.2.2.1), (11, .int t31.2.2.2.2.1), (12, .int t31.2.2.2.2.2), (13, .int z56.1)]) hc dX6_surprise_190 rfl rfl ?_
                    refine G_goto (tgt := 83) hc dX6_surprise_192 (by decide) ?_
                    refine G_lv (lv' := [(0, .ref h_m), (1, .int a1), (2, .int a2), (3, .int a3), (4, .int a4), (5, .int a5), (6, .int z11), (7, .int t31.1), (8, .int t31.2.1), (9, .int t31.2.2.1), (10, .int t31.2.2.2.1), (11, .int t31.2.2.2.2.1), (12, .int t31.2.2.2.2.2), (13, .int z56.1)]) (lsame_cons rfl (lsame_cons rfl (lsame_cons rfl (lsame_cons rfl (lsame_cons rfl (lsame_cons rfl (lsame_cons rfl (lsame_cons rfl (lsame_cons rfl (lsame_cons rfl (lsame_cons rfl (lsame_cons rfl (lsame_cons rfl (lsame_cons rfl lsame_nil)))))))))))))) ?_
                    exact ih27 _ _ _ _ _ _ _ _ h
                  clear h
                  have h := hr33
                  clear hr33
                  refine G_if_eq (tgt := 186) hc dX6_surprise_93 (by decide) (fun c55 => ?_) (fun c55 => ?_)
                  · have h := ip h c55
                    have h := Option.some.inj h
                    subst h
                    refine G_lv (lv' := [(0, .ref h_m), (1, .int a1), (2, .int a2), (3, .int a3), (4, .int a4), (5, .int a5), (6, .int z11), (7, .int u15), (8, .int u16), (9, .int u17), (10, .int u18), (11, .int u19), (12, .int u20)]) (lsame_cons rfl (lsame_cons rfl (lsame_cons rfl (lsame_cons rfl (lsame_cons rfl (lsame_cons rfl (lsame_cons rfl (lsame_cons rfl (lsame_cons rfl (lsame_cons rfl (lsame_cons rfl (lsame_cons rfl (lsame_cons rfl lsame_nil))))))))))))) ?_
                    exact hj32
                  · have h := inn h c55
                    refine G_aload_n hc dX6_surprise_96 rfl ?_
                    refine G_aload_n hc dX6_surprise_97 rfl ?_
                    refine G_get hc f_X6_22 0 rfl rfl dX6_surprise_98 ?_
                    refine G_iconst (v := 0) hc dX6_surprise_101 (by decide) ?_
                    refine G_iload_n hc dX6_surprise_102 rfl ?_
                    refine G_iload_n hc dX6_surprise_103 rfl ?_
                    refine G_iload hc dX6_surprise_104 rfl ?_
                    obtain ⟨z34, hu35, h⟩ := ob h
                    refine G_callVI (ws2 := [(h_m, .inr (6, [.ref h_m_s, .ref h_m_past, .ref h_m_held, .int m_pasts, .int m_runs0, .ref h_m_text, .int m_typed, .ref h_m_now, .ref h_m_kept, .int m_spot, .int m_reason, .int m_cause, .int m_orders, .int m_kindNow, .int m_placeNow])), (h_m_s, .inl (cI, 116, .inl m_s)), (h_m_past, .inl (cI, 464, .inl m_past)), (h_m_held, .inl (cI, 116, .inl m_held)), (h_m_text, .inl (cI, 60, .inl m_text)), (h_m_now, .inl (cI, 10, .inl u22)), (h_m_kept, .inl (cI, 16, .inl z13.2))]) hc m_X6_111 (c_X6_told_m_now l D cI cS X F h_m h_m_s h_m_past h_m_held h_m_text h_m_now h_m_kept m_pasts m_runs0 m_typed m_spot m_reason m_cause m_orders m_kindNow m_placeNow m_s m_past m_held m_text u22 z13.2 (0 : Int32) a2 a3 a4 hu35) 0 [0, 1, 2, 3, 4, 5, 6] rfl rfl (rmok_of (Nat.le_of_ble_eq_true rfl)) ⟨Nat.zero_le _, Nat.zero_le _⟩ rfl rfl rfl rfl rfl ⟨rfl, rfl, rfl⟩ dX6_surprise_106 ?_
                    refine G_istore (lv' := [(0, .ref h_m), (1, .int a1), (2, .int a2), (3, .int a3), (4, .int a4), (5, .int a5), (6, .int z11), (7, .int u15), (8, .int u16), (9, .int u17), (10, .int u18), (11, .int u19), (12, .int u20), (13, .int u21), (14, .int z34)]) hc dX6_surprise_109 rfl rfl ?_
                    refine G_iload hc dX6_surprise_111 rfl ?_
                    refine G_iload hc dX6_surprise_113 rfl ?_
                    refine G_iload hc dX6_surprise_115 rfl ?_
                    obtain ⟨t36, hr38, h⟩ := ob h
                    have hj37 : G p l e (rmk 4) s m [.ref h_m, .int a1, .int a2, .int a3, .int a4, .int a5].toArray below meth c D A 15 0 0 (QI below [.ref h_m, .int a1, .int a2, .int a3, .int a4, .int a5].toArray s D A (PoI res.1 [(h_m, .inr (6, [.ref h_m_s, .ref h_m_past, .ref h_m_held, .int m_pasts, .int m_runs0, .ref h_m_text, .int m_typed, .ref h_m_now, .ref h_m_kept, .int m_spot, .int m_reason, .int m_cause, .int m_orders, .int m_kindNow, .int m_placeNow])), (h_m_s, .inl (cI, 116, .inl m_s)), (h_m_past, .inl (cI, 464, .inl m_past)), (h_m_held, .inl (cI, 116, .inl m_held)), (h_m_text, .inl (cI, 60, .inl m_text)), (h_m_now, .inl (cI, 10, .inl res.2.1)), (h_m_kept, .inl (cI, 16, .inl res.2.2))])) [(h_m, .inr (6, [.ref h_m_s, .ref h_m_past, .ref h_m_held, .int m_pasts, .int m_runs0, .ref h_m_text, .int m_typed, .ref h_m_now, .ref h_m_kept, .int m_spot, .int m_reason, .int m_cause, .int m_orders, .int m_kindNow, .int m_placeNow])), (h_m_s, .inl (cI, 116, .inl m_s)), (h_m_past, .inl (cI, 464, .inl m_past)), (h_m_held, .inl (cI, 116, .inl m_held)), (h_m_text, .inl (cI, 60, .inl m_text)), (h_m_now, .inl (cI, 10, .inl u22)), (h_m_kept, .inl (cI, 16, .inl z13.2))] [(0, .ref h_m), (1, .int a1), (2, .int a2), (3, .int a3), (4, .int a4), (5, .int a5), (6, .int z11), (7, .int u15), (9, .int u17), (10, .int u18), (11, .int u19), (12, .int u20), (14, .int z34)] 125 [.int t36, .int u16] := by
                      refine G_iadd hc dX6_surprise_125 ?_
                      obtain ⟨v40, e_v40, h⟩ := sb h
                      refine G_top e_v40 ?_
                      refine G_istore (lv' := [(0, .ref h_m), (1, .int a1), (2, .int a2), (3, .int a3), (4, .int a4), (5, .int a5), (6, .int z11), (7, .int u15), (9, .int u17), (10, .int u18), (11, .int u19), (12, .int u20), (14, .int z34), (8, .int v40)]) hc dX6_surprise_126 rfl rfl ?_
                      refine G_iload hc dX6_surprise_128 rfl ?_
                      refine G_iload hc dX6_surprise_130 rfl ?_
                      obtain ⟨t41, hr43, h⟩ := ob h
                      have hj42 : G p l e (rmk 4) s m [.ref h_m, .int a1, .int a2, .int a3, .int a4, .int a5].toArray below meth c D A 15 0 0 (QI below [.ref h_m, .int a1, .int a2, .int a3, .int a4, .int a5].toArray s D A (PoI res.1 [(h_m, .inr (6, [.ref h_m_s, .ref h_m_past, .ref h_m_held, .int m_pasts, .int m_runs0, .ref h_m_text, .int m_typed, .ref h_m_now, .ref h_m_kept, .int m_spot, .int m_reason, .int m_cause, .int m_orders, .int m_kindNow, .int m_placeNow])), (h_m_s, .inl (cI, 116, .inl m_s)), (h_m_past, .inl (cI, 464, .inl m_past)), (h_m_held, .inl (cI, 116, .inl m_held)), (h_m_text, .inl (cI, 60, .inl m_text)), (h_m_now, .inl (cI, 10, .inl res.2.1)), (h_m_kept, .inl (cI, 16, .inl res.2.2))])) [(h_m, .inr (6, [.ref h_m_s, .ref h_m_past, .ref h_m_held, .int m_pasts, .int m_runs0, .ref h_m_text, .int m_typed, .ref h_m_now, .ref h_m_kept, .int m_spot, .int m_reason, .int m_cause, .int m_orders, .int m_kindNow, .int m_placeNow])), (h_m_s, .inl (cI, 116, .inl m_s)), (h_m_past, .inl (cI, 464, .inl m_past)), (h_m_held, .inl (cI, 116, .inl m_held)), (h_m_text, .inl (cI, 60, .inl m_text)), (h_m_now, .inl (cI, 10, .inl u22)), (h_m_kept, .inl (cI, 16, .inl z13.2))] [(0, .ref h_m), (1, .int a1), (2, .int a2), (3, .int a3), (4, .int a4), (5, .int a5), (6, .int z11), (7, .int u15), (10, .int u18), (11, .int u19), (12, .int u20), (14, .int z34), (8, .int v40)] 142 [.int t41] := by
                        refine G_istore (lv' := [(0, .ref h_m), (1, .int a1), (2, .int a2), (3, .int a3), (4, .int a4), (5, .int a5), (6, .int z11), (7, .int u15), (10, .int u18), (11, .int u19), (12, .int u20), (14, .int z34), (8, .int v40), (9, .int t41)]) hc dX6_surprise_142 rfl rfl ?_
                        refine G_iload hc dX6_surprise_144 rfl ?_
                        refine G_iload hc dX6_surprise_146 rfl ?_
                        obtain ⟨t45, hr47, h⟩ := ob h
                        have hj46 : G p l e (rmk 4) s m [.ref h_m, .int a1, .int a2, .int a3, .int a4, .int a5].toArray below meth c D A 15 0 0 (QI below [.ref h_m, .int a1, .int a2, .int a3, .int a4, .int a5].toArray s D A (PoI res.1 [(h_m, .inr (6, [.ref h_m_s, .ref h_m_past, .ref h_m_held, .int m_pasts, .int m_runs0, .ref h_m_text, .int m_typed, .ref h_m_now, .ref h_m_kept, .int m_spot, .int m_reason, .int m_cause, .int m_orders, .int m_kindNow, .int m_placeNow])), (h_m_s, .inl (cI, 116, .inl m_s)), (h_m_past, .inl (cI, 464, .inl m_past)), (h_m_held, .inl (cI, 116, .inl m_held)), (h_m_text, .inl (cI, 60, .inl m_text)), (h_m_now, .inl (cI, 10, .inl res.2.1)), (h_m_kept, .inl (cI, 16, .inl res.2.2))])) [(h_m, .inr (6, [.ref h_m_s, .ref h_m_past, .ref h_m_held, .int m_pasts, .int m_runs0, .ref h_m_text, .int m_typed, .ref h_m_now, .ref h_m_kept, .int m_spot, .int m_reason, .int m_cause, .int m_orders, .int m_kindNow, .int m_placeNow])), (h_m_s, .inl (cI, 116, .inl m_s)), (h_m_past, .inl (cI, 464, .inl m_past)), (h_m_held, .inl (cI, 116, .inl m_held)), (h_m_text, .inl (cI, 60, .inl m_text)), (h_m_now, .inl (cI, 10, .inl u22)), (h_m_kept, .inl (cI, 16, .inl z13.2))] [(0, .ref h_m), (1, .int a1), (2, .int a2), (3, .int a3), (4, .int a4), (5, .int a5), (6, .int z11), (7, .int u15), (10, .int u18), (11, .int u19), (14, .int z34), (8, .int v40), (9, .int t41)] 158 [.int t45] := by
                          refine G_istore (lv' := [(0, .ref h_m), (1, .int a1), (2, .int a2), (3, .int a3), (4, .int a4), (5, .int a5), (6, .int z11), (7, .int u15), (10, .int u18), (11, .int u19), (14, .int z34), (8, .int v40), (9, .int t41), (12, .int t45)]) hc dX6_surprise_158 rfl rfl ?_
                          refine G_iload hc dX6_surprise_160 rfl ?_
                          refine G_iload hc dX6_surprise_162 rfl ?_
                          obtain ⟨t49, hr51, h⟩ := ob h
                          have hj50 : G p l e (rmk 4) s m [.ref h_m, .int a1, .int a2, .int a3, .int a4, .int a5].toArray below meth c D A 15 0 0 (QI below [.ref h_m, .int a1, .int a2, .int a3, .int a4, .int a5].toArray s D A (PoI res.1 [(h_m, .inr (6, [.ref h_m_s, .ref h_m_past, .ref h_m_held, .int m_pasts, .int m_runs0, .ref h_m_text, .int m_typed, .ref h_m_now, .ref h_m_kept, .int m_spot, .int m_reason, .int m_cause, .int m_orders, .int m_kindNow, .int m_placeNow])), (h_m_s, .inl (cI, 116, .inl m_s)), (h_m_past, .inl (cI, 464, .inl m_past)), (h_m_held, .inl (cI, 116, .inl m_held)), (h_m_text, .inl (cI, 60, .inl m_text)), (h_m_now, .inl (cI, 10, .inl res.2.1)), (h_m_kept, .inl (cI, 16, .inl res.2.2))])) [(h_m, .inr (6, [.ref h_m_s, .ref h_m_past, .ref h_m_held, .int m_pasts, .int m_runs0, .ref h_m_text, .int m_typed, .ref h_m_now, .ref h_m_kept, .int m_spot, .int m_reason, .int m_cause, .int m_orders, .int m_kindNow, .int m_placeNow])), (h_m_s, .inl (cI, 116, .inl m_s)), (h_m_past, .inl (cI, 464, .inl m_past)), (h_m_held, .inl (cI, 116, .inl m_held)), (h_m_text, .inl (cI, 60, .inl m_text)), (h_m_now, .inl (cI, 10, .inl u22)), (h_m_kept, .inl (cI, 16, .inl z13.2))] [(0, .ref h_m), (1, .int a1), (2, .int a2), (3, .int a3), (4, .int a4), (5, .int a5), (6, .int z11), (7, .int u15), (11, .int u19), (14, .int z34), (8, .int v40), (9, .int t41), (12, .int t45)] 174 [.int t49] := by
                            refine G_istore (lv' := [(0, .ref h_m), (1, .int a1), (2, .int a2), (3, .int a3), (4, .int a4), (5, .int a5), (6, .int z11), (7, .int u15), (11, .int u19), (14, .int z34), (8, .int v40), (9, .int t41), (12, .int t45), (10, .int t49)]) hc dX6_surprise_174 rfl rfl ?_
                            refine G_iload hc dX6_surprise_176 rfl ?_
                            refine G_iload hc dX6_surprise_178 rfl ?_
                            refine G_iadd hc dX6_surprise_180 ?_
                            obtain ⟨v53, e_v53, h⟩ := sb h
                            refine G_top e_v53 ?_
                            refine G_istore (lv' := [(0, .ref h_m), (1, .int a1), (2, .int a2), (3, .int a3), (4, .int a4), (5, .int a5), (6, .int z11), (7, .int u15), (11, .int v53), (14, .int z34), (8, .int v40), (9, .int t41), (12, .int t45), (10, .int t49)]) hc dX6_surprise_181 rfl rfl ?_
                            obtain ⟨v54, e_v54, h⟩ := sb h
                            refine G_iinc (v := v54) (lv' := [(0, .ref h_m), (1, .int a1), (2, .int a2), (3, .int a3), (4, .int a4), (5, .int a5), (6, .int z11), (7, .int v54), (11, .int v53), (14, .int z34), (8, .int v40), (9, .int t41), (12, .int t45), (10, .int t49)]) hc dX6_surprise_183 rfl (e_v54.trans rfl) rfl rfl ?_
                            have h := Option.some.inj h
                            subst h
                            refine G_lv (lv' := [(0, .ref h_m), (1, .int a1), (2, .int a2), (3, .int a3), (4, .int a4), (5, .int a5), (6, .int z11), (7, .int v54), (8, .int v40), (9, .int t41), (10, .int t49), (11, .int v53), (12, .int t45)]) (lsame_cons rfl (lsame_cons rfl (lsame_cons rfl (lsame_cons rfl (lsame_cons rfl (lsame_cons rfl (lsame_cons rfl (lsame_cons rfl (lsame_cons rfl (lsame_cons rfl (lsame_cons rfl (lsame_cons rfl (lsame_cons rfl lsame_nil))))))))))))) ?_
                            exact hj32
                          clear h
                          have h := hr51
                          clear hr51
                          refine G_icmp_le (tgt := 172) hc dX6_surprise_164 (by decide) (fun c52 => ?_) (fun c52 => ?_)
                          · have h := ip h c52
                            refine G_iload hc dX6_surprise_172 rfl ?_
                            have h := Option.some.inj h
                            subst h
                            refine G_lv (lv' := [(0, .ref h_m), (1, .int a1), (2, .int a2), (3, .int a3), (4, .int a4), (5, .int a5), (6, .int z11), (7, .int u15), (11, .int u19), (14, .int z34), (8, .int v40), (9, .int t41), (12, .int t45)]) (lsame_cons rfl (lsame_cons rfl (lsame_cons rfl (lsame_cons rfl (lsame_cons rfl (lsame_cons rfl (lsame_cons rfl (lsame_cons rfl (lsame_cons rfl (lsame_cons rfl (lsame_cons rfl (lsame_cons rfl (lsame_cons rfl lsame_nil))))))))))))) ?_
                            exact hj50
                          · have h := inn h c52
                            refine G_iload hc dX6_surprise_167 rfl ?_
                            refine G_goto (tgt := 174) hc dX6_surprise_169 (by decide) ?_
                            have h := Option.some.inj h
                            subst h
                            refine G_lv (lv' := [(0, .ref h_m), (1, .int a1), (2, .int a2), (3, .int a3), (4, .int a4), (5, .int a5), (6, .int z11), (7, .int u15), (11, .int u19), (14, .int z34), (8, .int v40), (9, .int t41), (12, .int t45)]) (lsame_cons rfl (lsame_cons rfl (lsame_cons rfl (lsame_cons rfl (lsame_cons rfl (lsame_cons rfl (lsame_cons rfl (lsame_cons rfl (lsame_cons rfl (lsame_cons rfl (lsame_cons rfl (lsame_cons rfl (lsame_cons rfl lsame_nil))))))))))))) ?_
                            exact hj50
                        clear h
                        have h := hr47
                        clear hr47
                        refine G_icmp_le (tgt := 156) hc dX6_surprise_148 (by decide) (fun c48 => ?_) (fun c48 => ?_)
                        · have h := ip h c48
                          refine G_iload hc dX6_surprise_156 rfl ?_
                          have h := Option.some.inj h
                          subst h
                          refine G_lv (lv' := [(0, .ref h_m), (1, .int a1), (2, .int a2), (3, .int a3), (4, .int a4), (5, .int a5), (6, .int z11), (7, .int u15), (10, .int u18), (11, .int u19), (14, .int z34), (8, .int v40), (9, .int t41)]) (lsame_cons rfl (lsame_cons rfl (lsame_cons rfl (lsame_cons rfl (lsame_cons rfl (lsame_cons rfl (lsame_cons rfl (lsame_cons rfl (lsame_cons rfl (lsame_cons rfl (lsame_cons rfl (lsame_cons rfl (lsame_cons rfl lsame_nil))))))))))))) ?_
                          exact hj46
                        · have h := inn h c48
                          refine G_iload hc dX6_surprise_151 rfl ?_
                          refine G_goto (tgt := 158) hc dX6_surprise_153 (by decide) ?_
                          have h := Option.some.inj h
                          subst h
                          refine G_lv (lv' := [(0, .ref h_m), (1, .int a1), (2, .int a2), (3, .int a3), (4, .int a4), (5, .int a5), (6, .int z11), (7, .int u15), (10, .int u18), (11, .int u19), (14, .int z34), (8, .int v40), (9, .int t41)]) (lsame_cons rfl (lsame_cons rfl (lsame_cons rfl (lsame_cons rfl (lsame_cons rfl (lsame_cons rfl (lsame_cons rfl (lsame_cons rfl (lsame_cons rfl (lsame_cons rfl (lsame_cons rfl (lsame_cons rfl (lsame_cons rfl lsame_nil))))))))))))) ?_
                          exact hj46
                      clear h
                      have h := hr43
                      clear hr43
                      refine G_icmp_ge (tgt := 140) hc dX6_surprise_132 (by decide) (fun c44 => ?_) (fun c44 => ?_)
                      · have h := ip h c44
                        refine G_iload hc dX6_surprise_140 rfl ?_
                        have h := Option.some.inj h
                        subst h
                        refine G_lv (lv' := [(0, .ref h_m), (1, .int a1), (2, .int a2), (3, .int a3), (4, .int a4), (5, .int a5), (6, .int z11), (7, .int u15), (10, .int u18), (11, .int u19), (12, .int u20), (14, .int z34), (8, .int v40)]) (lsame_cons rfl (lsame_cons rfl (lsame_cons rfl (lsame_cons rfl (lsame_cons rfl (lsame_cons rfl (lsame_cons rfl (lsame_cons rfl (lsame_cons rfl (lsame_cons rfl (lsame_cons rfl (lsame_cons rfl (lsame_cons rfl lsame_nil))))))))))))) ?_
                        exact hj42
                      · have h := inn h c44
                        refine G_iload hc dX6_surprise_135 rfl ?_
                        refine G_goto (tgt := 142) hc dX6_surprise_137 (by decide) ?_
                        have h := Option.some.inj h
                        subst h
                        refine G_lv (lv' := [(0, .ref h_m), (1, .int a1), (2, .int a2), (3, .int a3), (4, .int a4), (5, .int a5), (6, .int z11), (7, .int u15), (10, .int u18), (11, .int u19), (12, .int u20), (14, .int z34), (8, .int v40)]) (lsame_cons rfl (lsame_cons rfl (lsame_cons rfl (lsame_cons rfl (lsame_cons rfl (lsame_cons rfl (lsame_cons rfl (lsame_cons rfl (lsame_cons rfl (lsame_cons rfl (lsame_cons rfl (lsame_cons rfl (lsame_cons rfl lsame_nil))))))))))))) ?_
                        exact hj42
                    clear h
                    have h := hr38
                    clear hr38
                    refine G_icmp_lt (tgt := 124) hc dX6_surprise_117 (by decide) (fun c39 => ?_) (fun c39 => ?_)
                    · have h := ip h c39
                      refine G_iconst (v := 0) hc dX6_surprise_124 (by decide) ?_
                      have h := Option.some.inj h
                      subst h
                      refine G_lv (lv' := [(0, .ref h_m), (1, .int a1), (2, .int a2), (3, .int a3), (4, .int a4), (5, .int a5), (6, .int z11), (7, .int u15), (9, .int u17), (10, .int u18), (11, .int u19), (12, .int u20), (14, .int z34)]) (lsame_cons rfl (lsame_cons rfl (lsame_cons rfl (lsame_cons rfl (lsame_cons rfl (lsame_cons rfl (lsame_cons rfl (lsame_cons rfl (lsame_cons rfl (lsame_cons rfl (lsame_cons rfl (lsame_cons rfl (lsame_cons rfl lsame_nil))))))))))))) ?_
                      exact hj37
                    · have h := inn h c39
                      refine G_iconst (v := 1) hc dX6_surprise_120 (by decide) ?_
                      refine G_goto (tgt := 125) hc dX6_surprise_121 (by decide) ?_
                      have h := Option.some.inj h
                      subst h
                      refine G_lv (lv' := [(0, .ref h_m), (1, .int a1), (2, .int a2), (3, .int a3), (4, .int a4), (5, .int a5), (6, .int z11), (7, .int u15), (9, .int u17), (10, .int u18), (11, .int u19), (12, .int u20), (14, .int z34)]) (lsame_cons rfl (lsame_cons rfl (lsame_cons rfl (lsame_cons rfl (lsame_cons rfl (lsame_cons rfl (lsame_cons rfl (lsame_cons rfl (lsame_cons rfl (lsame_cons rfl (lsame_cons rfl (lsame_cons rfl (lsame_cons rfl lsame_nil))))))))))))) ?_
                      exact hj37
            refine G_lv (lv' := [(0, .ref h_m), (1, .int a1), (2, .int a2), (3, .int a3), (4, .int a4), (5, .int a5), (6, .int z11), (7, .int (0 : Int32)), (8, .int (0 : Int32)), (9, .int (99 : Int32)), (10, .int (-1 : Int32)), (11, .int (0 : Int32)), (12, .int (0 : Int32)), (13, .int (1 : Int32))]) (lsame_cons rfl (lsame_cons rfl (lsame_cons rfl (lsame_cons rfl (lsame_cons rfl (lsame_cons rfl (lsame_cons rfl (lsame_cons rfl (lsame_cons rfl (lsame_cons rfl (lsame_cons rfl (lsame_cons rfl (lsame_cons rfl (lsame_cons rfl lsame_nil)))))))))))))) ?_
            exact hL25 F _ _ _ _ _ _ _ _ hl24
          · have h := ip h c66
            refine G_ldc (v := -1000001) hc k_X6_44 dX6_surprise_39 ?_
            have h := Option.some.inj h
            subst h
            exact G_ireturn hc ⟨rfl, rfl⟩ dX6_surprise_41
set_option maxHeartbeats 4000000 in
set_option maxRecDepth 100000 in
theorem c_X6_common (l : Launch) (D : va_G) (cI cS : ClassId) (X : XP) (F : Nat) (h_m h_m_s h_m_past h_m_held h_m_text h_m_now h_m_kept : Nat) (m_pasts : Int32) (m_runs0 : Int32) (m_typed : Int32) (m_spot : Int32) (m_reason : Int32) (m_cause : Int32) (m_orders : Int32) (m_kindNow : Int32) (m_placeNow : Int32) (m_s : Nat → Int32) (m_past : Nat → Int32) (m_held : Nat → Int32) (m_text : Nat → Int32) (m_now : Nat → Int32) (m_kept : Nat → Int32) (a1 : Int32) (a2 : Int32) {res : Int32 × (Nat → Int32) × (Nat → Int32)} (h : f_X6_common F m_s m_now m_kept a1 a2 = some res) : CtI l D cI cS X yX6_common cX6_common 5 (some .int) 4 [.ref h_m, .int a1, .int a2] [(h_m, .inr (6, [.ref h_m_s, .ref h_m_past, .ref h_m_held, .int m_pasts, .int m_runs0, .ref h_m_text, .int m_typed, .ref h_m_now, .ref h_m_kept, .int m_spot, .int m_reason, .int m_cause, .int m_orders, .int m_kindNow, .int m_placeNow])), (h_m_s, .inl (cI, 116, .inl m_s)), (h_m_past, .inl (cI, 464, .inl m_past)), (h_m_held, .inl (cI, 116, .inl m_held)), (h_m_text, .inl (cI, 60, .inl m_text)), (h_m_now, .inl (cI, 10, .inl m_now)), (h_m_kept, .inl (cI, 16, .inl m_kept))] (PoI res.1 [(h_m, .inr (6, [.ref h_m_s, .ref h_m_past, .ref h_m_held, .int m_pasts, .int m_runs0, .ref h_m_text, .int m_typed, .ref h_m_now, .ref h_m_kept, .int m_spot, .int m_reason, .int m_cause, .int m_orders, .int m_kindNow, .int m_placeNow])), (h_m_s, .inl (cI, 116, .inl m_s)), (h_m_past, .inl (cI, 464, .inl m_past)), (h_m_held, .inl (cI, 116, .inl m_held)), (h_m_text, .inl (cI, 60, .inl m_text)), (h_m_now, .inl (cI, 10, .inl res.2.1)), (h_m_kept, .inl (cI, 16, .inl res.2.2))]) := by
  refine CtI.of (by decide +kernel) rfl ?_
  intro p e s m below meth c A hc
  refine G_lv (lv' := [(0, .ref h_m), (1, .int a1), (2, .int a2)]) (lsame_cons rfl (lsame_cons rfl (lsame_cons rfl lsame_nil))) ?_
  unfold f_X6_common at h
  refine G_iload_n hc dX6_common_0 rfl ?_
  obtain ⟨z1, hu2, h⟩ := ob h
  refine G_callSI (ws2 := [(h_m, .inr (6, [.ref h_m_s, .ref h_m_past, .ref h_m_held, .int m_pasts, .int m_runs0, .ref h_m_text, .int m_typed, .ref h_m_now, .ref h_m_kept, .int m_spot, .int m_reason, .int m_cause, .int m_orders, .int m_kindNow, .int m_placeNow])), (h_m_s, .inl (cI, 116, .inl m_s)), (h_m_past, .inl (cI, 464, .inl m_past)), (h_m_held, .inl (cI, 116, .inl m_held)), (h_m_text, .inl (cI, 60, .inl m_text)), (h_m_now, .inl (cI, 10, .inl m_now)), (h_m_kept, .inl (cI, 16, .inl m_kept))]) hc m_X6_40 (c_X6_is4 l D cI cS X F a1 hu2) [] (rmok_of (Nat.le_of_ble_eq_true rfl)) ⟨Nat.zero_le _, Nat.zero_le _⟩ rfl rfl rfl rfl rfl ⟨rfl, rfl, rfl⟩ dX6_common_1 ?_
  refine G_if_eq (tgt := 14) hc dX6_common_4 (by decide) (fun c30 => ?_) (fun c30 => ?_)
  · have h := ip h c30
    refine G_ldc (v := -1000001) hc k_X6_44 dX6_common_14 ?_
    have h := Option.some.inj h
    subst h
    exact G_ireturn hc ⟨rfl, rfl⟩ dX6_common_16
  · have h := inn h c30
    refine G_iload_n hc dX6_common_7 rfl ?_
    obtain ⟨z3, hu4, h⟩ := ob h
    refine G_callSI (ws2 := [(h_m, .inr (6, [.ref h_m_s, .ref h_m_past, .ref h_m_held, .int m_pasts, .int m_runs0, .ref h_m_text, .int m_typed, .ref h_m_now, .ref h_m_kept, .int m_spot, .int m_reason, .int m_cause, .int m_orders, .int m_kindNow, .int m_placeNow])), (h_m_s, .inl (cI, 116, .inl m_s)), (h_m_past, .inl (cI, 464, .inl m_past)), (h_m_held, .inl (cI, 116, .inl m_held)), (h_m_text, .inl (cI, 60, .inl m_text)), (h_m_now, .inl (cI, 10, .inl m_now)), (h_m_kept, .inl (cI, 16, .inl m_kept))]) hc m_X6_40 (c_X6_is4 l D cI cS X F a2 hu4) [] (rmok_of (Nat.le_of_ble_eq_true rfl)) ⟨Nat.zero_le _, Nat.zero_le _⟩ rfl rfl rfl rfl rfl ⟨rfl, rfl, rfl⟩ dX6_common_8 ?_
    refine G_if_ne (tgt := 17) hc dX6_common_11 (by decide) (fun c29 => ?_) (fun c29 => ?_)
    · have h := inn h c29
      refine G_iconst (v := 0) hc dX6_common_17 (by decide) ?_
      refine G_istore_n (lv' := [(0, .ref h_m), (1, .int a1), (2, .int a2), (3, .int (0 : Int32))]) hc dX6_common_18 rfl rfl ?_
      refine G_aload_n hc dX6_common_19 rfl ?_
      obtain ⟨z5, hu6, h⟩ := ob h
      refine G_callVV (ws2 := [(h_m, .inr (6, [.ref h_m_s, .ref h_m_past, .ref h_m_held, .int m_pasts, .int m_runs0, .ref h_m_text, .int m_typed, .ref h_m_now, .ref h_m_kept, .int m_spot, .int m_reason, .int m_cause, .int m_orders, .int m_kindNow, .int m_placeNow])), (h_m_s, .inl (cI, 116, .inl m_s)), (h_m_past, .inl (cI, 464, .inl m_past)), (h_m_held, .inl (cI, 116, .inl m_held)), (h_m_text, .inl (cI, 60, .inl m_text)), (h_m_now, .inl (cI, 10, .inl z5.1)), (h_m_kept, .inl (cI, 16, .inl z5.2))]) hc m_X6_81 (c_X6_begin l D cI cS X F h_m h_m_s h_m_past h_m_held h_m_text h_m_now h_m_kept m_pasts m_runs0 m_typed m_spot m_reason m_cause m_orders m_kindNow m_placeNow m_s m_past m_held m_text m_now m_kept hu6) 0 [0, 1, 2, 3, 4, 5, 6] rfl rfl (rmok_of (Nat.le_of_ble_eq_true rfl)) ⟨Nat.zero_le _, Nat.zero_le _⟩ rfl rfl rfl rfl rfl ⟨rfl, rfl, rfl⟩ dX6_common_20 ?_
      refine G_iconst (v := 1) hc dX6_common_23 (by decide) ?_
      refine G_istore (lv' := [(0, .ref h_m), (1, .int a1), (2, .int a2), (3, .int (0 : Int32)), (4, .int (1 : Int32))]) hc dX6_common_24 rfl rfl ?_
      obtain ⟨e10, hl11, h⟩ := ob h
      have hK15 : G p l e (rmk 4) s m [.ref h_m, .int a1, .int a2].toArray below meth c D A 5 0 0 (QI below [.ref h_m, .int a1, .int a2].toArray s D A (PoI res.1 [(h_m, .inr (6, [.ref h_m_s, .ref h_m_past, .ref h_m_held, .int m_pasts, .int m_runs0, .ref h_m_text, .int m_typed, .ref h_m_now, .ref h_m_kept, .int m_spot, .int m_reason, .int m_cause, .int m_orders, .int m_kindNow, .int m_placeNow])), (h_m_s, .inl (cI, 116, .inl m_s)), (h_m_past, .inl (cI, 464, .inl m_past)), (h_m_held, .inl (cI, 116, .inl m_held)), (h_m_text, .inl (cI, 60, .inl m_text)), (h_m_now, .inl (cI, 10, .inl res.2.1)), (h_m_kept, .inl (cI, 16, .inl res.2.2))])) [(h_m, .inr (6, [.ref h_m_s, .ref h_m_past, .ref h_m_held, .int m_pasts, .int m_runs0, .ref h_m_text, .int m_typed, .ref h_m_now, .ref h_m_kept, .int m_spot, .int m_reason, .int m_cause, .int m_orders, .int m_kindNow, .int m_placeNow])), (h_m_s, .inl (cI, 116, .inl m_s)), (h_m_past, .inl (cI, 464, .inl m_past)), (h_m_held, .inl (cI, 116, .inl m_held)), (h_m_text, .inl (cI, 60, .inl m_text)), (h_m_now, .inl (cI, 10, .inl e10.2)), (h_m_kept, .inl (cI, 16, .inl z5.2))] [(3, .int e10.1)] 64 [] := by
        refine G_iload_n hc dX6_common_64 rfl ?_
        have h := Option.some.inj h
        subst h
        exact G_ireturn hc ⟨rfl, rfl⟩ dX6_common_65
      clear h
      have hL12 : ∀ (n13 : Nat) (u7 : Int32) (u8 : Int32) (u9 : Nat → Int32), f_X6_common_L26 F m_s a1 a2 z5 n13 u7 u8 u9 = some e10 → G p l e (rmk 4) s m [.ref h_m, .int a1, .int a2].toArray below meth c D A 5 0 0 (QI below [.ref h_m, .int a1, .int a2].toArray s D A (PoI res.1 [(h_m, .inr (6, [.ref h_m_s, .ref h_m_past, .ref h_m_held, .int m_pasts, .int m_runs0, .ref h_m_text, .int m_typed, .ref h_m_now, .ref h_m_kept, .int m_spot, .int m_reason, .int m_cause, .int m_orders, .int m_kindNow, .int m_placeNow])), (h_m_s, .inl (cI, 116, .inl m_s)), (h_m_past, .inl (cI, 464, .inl m_past)), (h_m_held, .inl (cI, 116, .inl m_held)), (h_m_text, .inl (cI, 60, .inl m_text)), (h_m_now, .inl (cI, 10, .inl res.2.1)), (h_m_kept, .inl (cI, 16, .inl res.2.2))])) [(h_m, .inr (6, [.ref h_m_s, .ref h_m_past, .ref h_m_held, .int m_pasts, .int m_runs0, .ref h_m_text, .int m_typed, .ref h_m_now, .ref h_m_kept, .int m_spot, .int m_reason, .int m_cause, .int m_orders, .int m_kindNow, .int m_placeNow])), (h_m_s, .inl (cI, 116, .inl m_s)), (h_m_past, .inl (cI, 464, .inl m_past)), (h_m_held, .inl (cI, 116, .inl m_held)), (h_m_text, .inl (cI, 60, .inl m_text)), (h_m_now, .inl (cI, 10, .inl u9)), (h_m_kept, .inl (cI, 16, .inl z5.2))] [(0, .ref h_m), (1, .int a1), (2, .int a2), (3, .int u7), (4, .int u8)] 26 [] := by
        intro n13
        induction n13 with
        | zero =>
          intro u7 u8 u9 h
          exact nz h
        | succ n13 ih14 =>
          intro u7 u8 u9 h
          rw [f_X6_common_L26] at h
          refine G_iload hc dX6_common_26 rfl ?_
          refine G_if_eq (tgt := 64) hc dX6_common_28 (by decide) (fun c28 => ?_) (fun c28 => ?_)
          · have h := ip h c28
            have h := Option.some.inj h
            subst h
            refine G_lv (lv' := [(3, .int u7)]) (lsame_cons rfl lsame_nil) ?_
            exact hK15
          · have h := inn h c28
            refine G_iload_n hc dX6_common_31 rfl ?_
            refine G_aload_n hc dX6_common_32 rfl ?_
            refine G_iload_n hc dX6_common_33 rfl ?_
            obtain ⟨z16, hu17, h⟩ := ob h
            refine G_callVI (ws2 := [(h_m, .inr (6, [.ref h_m_s, .ref h_m_past, .ref h_m_held, .int m_pasts, .int m_runs0, .ref h_m_text, .int m_typed, .ref h_m_now, .ref h_m_kept, .int m_spot, .int m_reason, .int m_cause, .int m_orders, .int m_kindNow, .int m_placeNow])), (h_m_s, .inl (cI, 116, .inl m_s)), (h_m_past, .inl (cI, 464, .inl m_past)), (h_m_held, .inl (cI, 116, .inl m_held)), (h_m_text, .inl (cI, 60, .inl m_text)), (h_m_now, .inl (cI, 10, .inl u9)), (h_m_kept, .inl (cI, 16, .inl z5.2))]) hc m_X6_84 (c_X6_isOne l D cI cS X F h_m h_m_s h_m_past h_m_held h_m_text h_m_now h_m_kept m_pasts m_runs0 m_typed m_spot m_reason m_cause m_orders m_kindNow m_placeNow m_s m_past m_held m_text u9 z5.2 a1 hu17) 0 [0, 1, 2, 3, 4, 5, 6] rfl rfl (rmok_of (Nat.le_of_ble_eq_true rfl)) ⟨Nat.zero_le _, Nat.zero_le _⟩ rfl rfl rfl rfl rfl ⟨rfl, rfl, rfl⟩ dX6_common_34 ?_
            obtain ⟨t18, hr20, h⟩ := ob h
            have hj19 : G p l e (rmk 4) s m [.ref h_m, .int a1, .int a2].toArray below meth c D A 5 0 0 (QI below [.ref h_m, .int a1, .int a2].toArray s D A (PoI res.1 [(h_m, .inr (6, [.ref h_m_s, .ref h_m_past, .ref h_m_held, .int m_pasts, .int m_runs0, .ref h_m_text, .int m_typed, .ref h_m_now, .ref h_m_kept, .int m_spot, .int m_reason, .int m_cause, .int m_orders, .int m_kindNow, .int m_placeNow])), (h_m_s, .inl (cI, 116, .inl m_s)), (h_m_past, .inl (cI, 464, .inl m_past)), (h_m_held, .inl (cI, 116, .inl m_held)), (h_m_text, .inl (cI, 60, .inl m_text)), (h_m_now, .inl (cI, 10, .inl res.2.1)), (h_m_kept, .inl (cI, 16, .inl res.2.2))])) [(h_m, .inr (6, [.ref h_m_s, .ref h_m_past, .ref h_m_held, .int m_pasts, .int m_runs0, .ref h_m_text, .int m_typed, .ref h_m_now, .ref h_m_kept, .int m_spot, .int m_reason, .int m_cause, .int m_orders, .int m_kindNow, .int m_placeNow])), (h_m_s, .inl (cI, 116, .inl m_s)), (h_m_past, .inl (cI, 464, .inl m_past)), (h_m_held, .inl (cI, 116, .inl m_held)), (h_m_text, .inl (cI, 60, .inl m_text)), (h_m_now, .inl (cI, 10, .inl u9)), (h_m_kept, .inl (cI, 16, .inl z5.2))] [(0, .ref h_m), (1, .int a1), (2, .int a2)] 53 [.int t18, .int u7] := by
              refine G_iadd hc dX6_common_53 ?_
              obtain ⟨v25, e_v25, h⟩ := sb h
              refine G_top e_v25 ?_
              refine G_istore_n (lv' := [(0, .ref h_m), (1, .int a1), (2, .int a2), (3, .int v25)]) hc dX6_common_54 rfl rfl ?_
              refine G_aload_n hc dX6_common_55 rfl ?_
              obtain ⟨z26, hu27, h⟩ := ob h
              refine G_callVI (ws2 := [(h_m, .inr (6, [.ref h_m_s, .ref h_m_past, .ref h_m_held, .int m_pasts, .int m_runs0, .ref h_m_text, .int m_typed, .ref h_m_now, .ref h_m_kept, .int m_spot, .int m_reason, .int m_cause, .int m_orders, .int m_kindNow, .int m_placeNow])), (h_m_s, .inl (cI, 116, .inl m_s)), (h_m_past, .inl (cI, 464, .inl m_past)), (h_m_held, .inl (cI, 116, .inl m_held)), (h_m_text, .inl (cI, 60, .inl m_text)), (h_m_now, .inl (cI, 10, .inl z26.2)), (h_m_kept, .inl (cI, 16, .inl z5.2))]) hc m_X6_87 (c_X6_goes l D cI cS X F h_m h_m_s h_m_past h_m_held h_m_text h_m_now h_m_kept m_pasts m_runs0 m_typed m_spot m_reason m_cause m_orders m_kindNow m_placeNow m_s m_past m_held m_text u9 z5.2 hu27) 0 [0, 1, 2, 3, 4, 5, 6] rfl rfl (rmok_of (Nat.le_of_ble_eq_true rfl)) ⟨Nat.zero_le _, Nat.zero_le _⟩ rfl rfl rfl rfl rfl ⟨rfl, rfl, rfl⟩ dX6_common_56 ?_
              refine G_istore (lv' := [(0, .ref h_m), (1, .int a1), (2, .int a2), (3, .int v25), (4, .int z26.1)]) hc dX6_common_59 rfl rfl ?_
              refine G_goto (tgt := 26) hc dX6_common_61 (by decide) ?_
              refine G_lv (lv' := [(0, .ref h_m), (1, .int a1), (2, .int a2), (3, .int v25), (4, .int z26.1)]) (lsame_cons rfl (lsame_cons rfl (lsame_cons rfl (lsame_cons rfl (lsame_cons rfl lsame_nil))))) ?_
              exact ih14 _ _ _ h
            clear h
            have h := hr20
            clear hr20
            refine G_if_eq (tgt := 52) hc dX6_common_37 (by decide) (fun c24 => ?_) (fun c24 => ?_)
            · have h := ip h c24
              refine G_iconst (v := 0) hc dX6_common_52 (by decide) ?_
              have h := Option.some.inj h
              subst h
              refine G_lv (lv' := [(0, .ref h_m), (1, .int a1), (2, .int a2)]) (lsame_cons rfl (lsame_cons rfl (lsame_cons rfl lsame_nil))) ?_
              exact hj19
            · have h := inn h c24
              refine G_aload_n hc dX6_common_40 rfl ?_
              refine G_iload_n hc dX6_common_41 rfl ?_
              obtain ⟨z21, hu22, h⟩ := ob h
              refine G_callVI (ws2 := [(h_m, .inr (6, [.ref h_m_s, .ref h_m_past, .ref h_m_held, .int m_pasts, .int m_runs0, .ref h_m_text, .int m_typed, .ref h_m_now, .ref h_m_kept, .int m_spot, .int m_reason, .int m_cause, .int m_orders, .int m_kindNow, .int m_placeNow])), (h_m_s, .inl (cI, 116, .inl m_s)), (h_m_past, .inl (cI, 464, .inl m_past)), (h_m_held, .inl (cI, 116, .inl m_held)), (h_m_text, .inl (cI, 60, .inl m_text)), (h_m_now, .inl (cI, 10, .inl u9)), (h_m_kept, .inl (cI, 16, .inl z5.2))]) hc m_X6_84 (c_X6_isOne l D cI cS X F h_m h_m_s h_m_past h_m_held h_m_text h_m_now h_m_kept m_pasts m_runs0 m_typed m_spot m_reason m_cause m_orders m_kindNow m_placeNow m_s m_past m_held m_text u9 z5.2 a2 hu22) 0 [0, 1, 2, 3, 4, 5, 6] rfl rfl (rmok_of (Nat.le_of_ble_eq_true rfl)) ⟨Nat.zero_le _, Nat.zero_le _⟩ rfl rfl rfl rfl rfl ⟨rfl, rfl, rfl⟩ dX6_common_42 ?_
              refine G_if_eq (tgt := 52) hc dX6_common_45 (by decide) (fun c23 => ?_) (fun c23 => ?_)
              · have h := ip h c23
                refine G_iconst (v := 0) hc dX6_common_52 (by decide) ?_
                have h := Option.some.inj h
                subst h
                refine G_lv (lv' := [(0, .ref h_m), (1, .int a1), (2, .int a2)]) (lsame_cons rfl (lsame_cons rfl (lsame_cons rfl lsame_nil))) ?_
                exact hj19
              · have h := inn h c23
                refine G_iconst (v := 1) hc dX6_common_48 (by decide) ?_
                refine G_goto (tgt := 53) hc dX6_common_49 (by decide) ?_
                have h := Option.some.inj h
                subst h
                refine G_lv (lv' := [(0, .ref h_m), (1, .int a1), (2, .int a2)]) (lsame_cons rfl (lsame_cons rfl (lsame_cons rfl lsame_nil))) ?_
                exact hj19
      refine G_lv (lv' := [(0, .ref h_m), (1, .int a1), (2, .int a2), (3, .int (0 : Int32)), (4, .int (1 : Int32))]) (lsame_cons rfl (lsame_cons rfl (lsame_cons rfl (lsame_cons rfl (lsame_cons rfl lsame_nil))))) ?_
      exact hL12 F _ _ _ hl11
    · have h := ip h c29
      refine G_ldc (v := -1000001) hc k_X6_44 dX6_common_14 ?_
      have h := Option.some.inj h
      subst h
      exact G_ireturn hc ⟨rfl, rfl⟩ dX6_common_16
