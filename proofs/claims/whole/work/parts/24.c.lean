set_option maxHeartbeats 4000000 in
set_option maxRecDepth 100000 in
theorem c_X6_isWord (l : Launch) (D : va_G) (cI cS : ClassId) (X : XP) (F : Nat) (h_m h_m_s h_m_past h_m_held h_m_text h_m_now h_m_kept : Nat) (m_pasts : Int32) (m_runs0 : Int32) (m_typed : Int32) (m_spot : Int32) (m_reason : Int32) (m_cause : Int32) (m_orders : Int32) (m_kindNow : Int32) (m_placeNow : Int32) (m_s : Nat → Int32) (m_past : Nat → Int32) (m_held : Nat → Int32) (m_text : Nat → Int32) (m_now : Nat → Int32) (m_kept : Nat → Int32) (a1 : Int32) (a2 : Int32) (a3 : Int32) (a4 : Int32) (a5 : Int32) (a6 : Int32) {res : Int32} (h : f_X6_isWord F m_spot m_text a1 a2 a3 a4 a5 a6 = some res) : CtI l D cI cS X yX6_isWord cX6_isWord 9 (some .boolean) 1 [.ref h_m, .int a1, .int a2, .int a3, .int a4, .int a5, .int a6] [(h_m, .inr (6, [.ref h_m_s, .ref h_m_past, .ref h_m_held, .int m_pasts, .int m_runs0, .ref h_m_text, .int m_typed, .ref h_m_now, .ref h_m_kept, .int m_spot, .int m_reason, .int m_cause, .int m_orders, .int m_kindNow, .int m_placeNow])), (h_m_s, .inl (cI, 116, .inl m_s)), (h_m_past, .inl (cI, 464, .inl m_past)), (h_m_held, .inl (cI, 116, .inl m_held)), (h_m_text, .inl (cI, 60, .inl m_text)), (h_m_now, .inl (cI, 10, .inl m_now)), (h_m_kept, .inl (cI, 16, .inl m_kept))] (PoI res [(h_m, .inr (6, [.ref h_m_s, .ref h_m_past, .ref h_m_held, .int m_pasts, .int m_runs0, .ref h_m_text, .int m_typed, .ref h_m_now, .ref h_m_kept, .int m_spot, .int m_reason, .int m_cause, .int m_orders, .int m_kindNow, .int m_placeNow])), (h_m_s, .inl (cI, 116, .inl m_s)), (h_m_past, .inl (cI, 464, .inl m_past)), (h_m_held, .inl (cI, 116, .inl m_held)), (h_m_text, .inl (cI, 60, .inl m_text)), (h_m_now, .inl (cI, 10, .inl m_now)), (h_m_kept, .inl (cI, 16, .inl m_kept))]) := by
  refine CtI.of (by decide +kernel) rfl ?_
  intro p e s m below meth c A hc
  refine G_lv (lv' := [(0, .ref h_m), (1, .int a1), (2, .int a2), (3, .int a3), (4, .int a4), (5, .int a5), (6, .int a6)]) (lsame_cons rfl (lsame_cons rfl (lsame_cons rfl (lsame_cons rfl (lsame_cons rfl (lsame_cons rfl (lsame_cons rfl lsame_nil))))))) ?_
  unfold f_X6_isWord at h
  refine G_iload hc dX6_isWord_0 rfl ?_
  obtain ⟨t1, hr3, h⟩ := ob h
  have hj2 : G p l e (rmk 1) s m [.ref h_m, .int a1, .int a2, .int a3, .int a4, .int a5, .int a6].toArray below meth c D A 9 0 0 (QI below [.ref h_m, .int a1, .int a2, .int a3, .int a4, .int a5, .int a6].toArray s D A (PoI res [(h_m, .inr (6, [.ref h_m_s, .ref h_m_past, .ref h_m_held, .int m_pasts, .int m_runs0, .ref h_m_text, .int m_typed, .ref h_m_now, .ref h_m_kept, .int m_spot, .int m_reason, .int m_cause, .int m_orders, .int m_kindNow, .int m_placeNow])), (h_m_s, .inl (cI, 116, .inl m_s)), (h_m_past, .inl (cI, 464, .inl m_past)), (h_m_held, .inl (cI, 116, .inl m_held)), (h_m_text, .inl (cI, 60, .inl m_text)), (h_m_now, .inl (cI, 10, .inl m_now)), (h_m_kept, .inl (cI, 16, .inl m_kept))])) [(h_m, .inr (6, [.ref h_m_s, .ref h_m_past, .ref h_m_held, .int m_pasts, .int m_runs0, .ref h_m_text, .int m_typed, .ref h_m_now, .ref h_m_kept, .int m_spot, .int m_reason, .int m_cause, .int m_orders, .int m_kindNow, .int m_placeNow])), (h_m_s, .inl (cI, 116, .inl m_s)), (h_m_past, .inl (cI, 464, .inl m_past)), (h_m_held, .inl (cI, 116, .inl m_held)), (h_m_text, .inl (cI, 60, .inl m_text)), (h_m_now, .inl (cI, 10, .inl m_now)), (h_m_kept, .inl (cI, 16, .inl m_kept))] [(0, .ref h_m), (1, .int a1), (2, .int a2), (3, .int a3), (4, .int a4), (5, .int a5), (6, .int a6)] 19 [.int t1] := by
    refine G_istore (lv' := [(0, .ref h_m), (1, .int a1), (2, .int a2), (3, .int a3), (4, .int a4), (5, .int a5), (6, .int a6), (7, .int t1)]) hc dX6_isWord_19 rfl rfl ?_
    refine G_aload_n hc dX6_isWord_21 rfl ?_
    refine G_get hc f_X6_122 0 rfl rfl dX6_isWord_22 ?_
    refine G_iload_n hc dX6_isWord_25 rfl ?_
    refine G_isub hc dX6_isWord_26 ?_
    refine G_iload hc dX6_isWord_27 rfl ?_
    obtain ⟨t6, hr8, h⟩ := ob h
    have hj7 : G p l e (rmk 1) s m [.ref h_m, .int a1, .int a2, .int a3, .int a4, .int a5, .int a6].toArray below meth c D A 9 0 0 (QI below [.ref h_m, .int a1, .int a2, .int a3, .int a4, .int a5, .int a6].toArray s D A (PoI res [(h_m, .inr (6, [.ref h_m_s, .ref h_m_past, .ref h_m_held, .int m_pasts, .int m_runs0, .ref h_m_text, .int m_typed, .ref h_m_now, .ref h_m_kept, .int m_spot, .int m_reason, .int m_cause, .int m_orders, .int m_kindNow, .int m_placeNow])), (h_m_s, .inl (cI, 116, .inl m_s)), (h_m_past, .inl (cI, 464, .inl m_past)), (h_m_held, .inl (cI, 116, .inl m_held)), (h_m_text, .inl (cI, 60, .inl m_text)), (h_m_now, .inl (cI, 10, .inl m_now)), (h_m_kept, .inl (cI, 16, .inl m_kept))])) [(h_m, .inr (6, [.ref h_m_s, .ref h_m_past, .ref h_m_held, .int m_pasts, .int m_runs0, .ref h_m_text, .int m_typed, .ref h_m_now, .ref h_m_kept, .int m_spot, .int m_reason, .int m_cause, .int m_orders, .int m_kindNow, .int m_placeNow])), (h_m_s, .inl (cI, 116, .inl m_s)), (h_m_past, .inl (cI, 464, .inl m_past)), (h_m_held, .inl (cI, 116, .inl m_held)), (h_m_text, .inl (cI, 60, .inl m_text)), (h_m_now, .inl (cI, 10, .inl m_now)), (h_m_kept, .inl (cI, 16, .inl m_kept))] [(0, .ref h_m), (1, .int a1), (5, .int a5), (6, .int a6), (7, .int t1)] 72 [.int t6] := by
      refine G_istore (lv' := [(0, .ref h_m), (1, .int a1), (5, .int a5), (6, .int a6), (7, .int t1), (8, .int t6)]) hc dX6_isWord_72 rfl rfl ?_
      refine G_iload hc dX6_isWord_74 rfl ?_
      obtain ⟨t16, hr18, h⟩ := ob h
      have hj17 : G p l e (rmk 1) s m [.ref h_m, .int a1, .int a2, .int a3, .int a4, .int a5, .int a6].toArray below meth c D A 9 0 0 (QI below [.ref h_m, .int a1, .int a2, .int a3, .int a4, .int a5, .int a6].toArray s D A (PoI res [(h_m, .inr (6, [.ref h_m_s, .ref h_m_past, .ref h_m_held, .int m_pasts, .int m_runs0, .ref h_m_text, .int m_typed, .ref h_m_now, .ref h_m_kept, .int m_spot, .int m_reason, .int m_cause, .int m_orders, .int m_kindNow, .int m_placeNow])), (h_m_s, .inl (cI, 116, .inl m_s)), (h_m_past, .inl (cI, 464, .inl m_past)), (h_m_held, .inl (cI, 116, .inl m_held)), (h_m_text, .inl (cI, 60, .inl m_text)), (h_m_now, .inl (cI, 10, .inl m_now)), (h_m_kept, .inl (cI, 16, .inl m_kept))])) [(h_m, .inr (6, [.ref h_m_s, .ref h_m_past, .ref h_m_held, .int m_pasts, .int m_runs0, .ref h_m_text, .int m_typed, .ref h_m_now, .ref h_m_kept, .int m_spot, .int m_reason, .int m_cause, .int m_orders, .int m_kindNow, .int m_placeNow])), (h_m_s, .inl (cI, 116, .inl m_s)), (h_m_past, .inl (cI, 464, .inl m_past)), (h_m_held, .inl (cI, 116, .inl m_held)), (h_m_text, .inl (cI, 60, .inl m_text)), (h_m_now, .inl (cI, 10, .inl m_now)), (h_m_kept, .inl (cI, 16, .inl m_kept))] [] 122 [.int t16] := by
        obtain ⟨hz29, h⟩ := zb h
        have h := Option.some.inj h
        subst h
        exact G_zreturn hc hz29 ⟨rfl, rfl⟩ dX6_isWord_122
      clear h
      have h := hr18
      clear hr18
      refine G_if_eq (tgt := 121) hc dX6_isWord_76 (by decide) (fun c28 => ?_) (fun c28 => ?_)
      · have h := ip h c28
        refine G_iconst (v := 0) hc dX6_isWord_121 (by decide) ?_
        have h := Option.some.inj h
        subst h
        refine G_lv (lv' := []) lsame_nil ?_
        exact hj17
      · have h := inn h c28
        refine G_iload hc dX6_isWord_79 rfl ?_
        refine G_iconst (v := 4) hc dX6_isWord_81 (by decide) ?_
        refine G_icmp_lt (tgt := 98) hc dX6_isWord_82 (by decide) (fun c27 => ?_) (fun c27 => ?_)
        · have h := ip h c27
          refine G_iload hc dX6_isWord_98 rfl ?_
          refine G_iconst (v := 5) hc dX6_isWord_100 (by decide) ?_
          refine G_icmp_lt (tgt := 117) hc dX6_isWord_101 (by decide) (fun c21 => ?_) (fun c21 => ?_)
          · have h := ip h c21
            refine G_iconst (v := 1) hc dX6_isWord_117 (by decide) ?_
            refine G_goto (tgt := 122) hc dX6_isWord_118 (by decide) ?_
            have h := Option.some.inj h
            subst h
            refine G_lv (lv' := []) lsame_nil ?_
            exact hj17
          · have h := inn h c21
            refine G_aload_n hc dX6_isWord_104 rfl ?_
            refine G_get hc f_X6_19 0 rfl rfl dX6_isWord_105 ?_
            refine G_iload_n hc dX6_isWord_108 rfl ?_
            refine G_iconst (v := 4) hc dX6_isWord_109 (by decide) ?_
            refine G_iadd hc dX6_isWord_110 ?_
            obtain ⟨v19, i_v19, e_v19, h⟩ := rb h
            refine G_iald hc 4 rfl i_v19 e_v19 dX6_isWord_111 ?_
            refine G_iload hc dX6_isWord_112 rfl ?_
            refine G_icmp_ne (tgt := 121) hc dX6_isWord_114 (by decide) (fun c20 => ?_) (fun c20 => ?_)
            · have h := inn h c20
              refine G_iconst (v := 0) hc dX6_isWord_121 (by decide) ?_
              have h := Option.some.inj h
              subst h
              refine G_lv (lv' := []) lsame_nil ?_
              exact hj17
            · have h := ip h c20
              refine G_iconst (v := 1) hc dX6_isWord_117 (by decide) ?_
              refine G_goto (tgt := 122) hc dX6_isWord_118 (by decide) ?_
              have h := Option.some.inj h
              subst h
              refine G_lv (lv' := []) lsame_nil ?_
              exact hj17
        · have h := inn h c27
          refine G_aload_n hc dX6_isWord_85 rfl ?_
          refine G_get hc f_X6_19 0 rfl rfl dX6_isWord_86 ?_
          refine G_iload_n hc dX6_isWord_89 rfl ?_
          refine G_iconst (v := 3) hc dX6_isWord_90 (by decide) ?_
          refine G_iadd hc dX6_isWord_91 ?_
          obtain ⟨v22, i_v22, e_v22, h⟩ := rb h
          refine G_iald hc 4 rfl i_v22 e_v22 dX6_isWord_92 ?_
          refine G_iload hc dX6_isWord_93 rfl ?_
          refine G_icmp_ne (tgt := 121) hc dX6_isWord_95 (by decide) (fun c26 => ?_) (fun c26 => ?_)
          · have h := inn h c26
            refine G_iconst (v := 0) hc dX6_isWord_121 (by decide) ?_
            have h := Option.some.inj h
            subst h
            refine G_lv (lv' := []) lsame_nil ?_
            exact hj17
          · have h := ip h c26
            refine G_iload hc dX6_isWord_98 rfl ?_
            refine G_iconst (v := 5) hc dX6_isWord_100 (by decide) ?_
            refine G_icmp_lt (tgt := 117) hc dX6_isWord_101 (by decide) (fun c25 => ?_) (fun c25 => ?_)
            · have h := ip h c25
              refine G_iconst (v := 1) hc dX6_isWord_117 (by decide) ?_
              refine G_goto (tgt := 122) hc dX6_isWord_118 (by decide) ?_
              have h := Option.some.inj h
              subst h
              refine G_lv (lv' := []) lsame_nil ?_
              exact hj17
            · have h := inn h c25
              refine G_aload_n hc dX6_isWord_104 rfl ?_
              refine G_get hc f_X6_19 0 rfl rfl dX6_isWord_105 ?_
              refine G_iload_n hc dX6_isWord_108 rfl ?_
              refine G_iconst (v := 4) hc dX6_isWord_109 (by decide) ?_
              refine G_iadd hc dX6_isWord_110 ?_
              obtain ⟨v23, i_v23, e_v23, h⟩ := rb h
              refine G_iald hc 4 rfl i_v23 e_v23 dX6_isWord_111 ?_
              refine G_iload hc dX6_isWord_112 rfl ?_
              refine G_icmp_ne (tgt := 121) hc dX6_isWord_114 (by decide) (fun c24 => ?_) (fun c24 => ?_)
              · have h := inn h c24
                refine G_iconst (v := 0) hc dX6_isWord_121 (by decide) ?_
                have h := Option.some.inj h
                subst h
                refine G_lv (lv' := []) lsame_nil ?_
                exact hj17
              · have h := ip h c24
                refine G_iconst (v := 1) hc dX6_isWord_117 (by decide) ?_
                refine G_goto (tgt := 122) hc dX6_isWord_118 (by decide) ?_
                have h := Option.some.inj h
                subst h
                refine G_lv (lv' := []) lsame_nil ?_
                exact hj17
    clear h
    have h := hr8
    clear hr8
    refine G_icmp_ne (tgt := 71) hc dX6_isWord_29 (by decide) (fun c15 => ?_) (fun c15 => ?_)
    · have h := inn h c15
      refine G_iconst (v := 0) hc dX6_isWord_71 (by decide) ?_
      have h := Option.some.inj h
      subst h
      refine G_lv (lv' := [(0, .ref h_m), (1, .int a1), (5, .int a5), (6, .int a6), (7, .int t1)]) (lsame_cons rfl (lsame_cons rfl (lsame_cons rfl (lsame_cons rfl (lsame_cons rfl lsame_nil))))) ?_
      exact hj7
    · have h := ip h c15
      refine G_aload_n hc dX6_isWord_32 rfl ?_
      refine G_get hc f_X6_19 0 rfl rfl dX6_isWord_33 ?_
      refine G_iload_n hc dX6_isWord_36 rfl ?_
      obtain ⟨v9, i_v9, e_v9, h⟩ := rb h
      refine G_iald hc 4 rfl i_v9 e_v9 dX6_isWord_37 ?_
      refine G_iload_n hc dX6_isWord_38 rfl ?_
      refine G_icmp_ne (tgt := 71) hc dX6_isWord_39 (by decide) (fun c14 => ?_) (fun c14 => ?_)
      · have h := inn h c14
        refine G_iconst (v := 0) hc dX6_isWord_71 (by decide) ?_
        have h := Option.some.inj h
        subst h
        refine G_lv (lv' := [(0, .ref h_m), (1, .int a1), (5, .int a5), (6, .int a6), (7, .int t1)]) (lsame_cons rfl (lsame_cons rfl (lsame_cons rfl (lsame_cons rfl (lsame_cons rfl lsame_nil))))) ?_
        exact hj7
      · have h := ip h c14
        refine G_aload_n hc dX6_isWord_42 rfl ?_
        refine G_get hc f_X6_19 0 rfl rfl dX6_isWord_43 ?_
        refine G_iload_n hc dX6_isWord_46 rfl ?_
        refine G_iconst (v := 1) hc dX6_isWord_47 (by decide) ?_
        refine G_iadd hc dX6_isWord_48 ?_
        obtain ⟨v10, i_v10, e_v10, h⟩ := rb h
        refine G_iald hc 4 rfl i_v10 e_v10 dX6_isWord_49 ?_
        refine G_iload_n hc dX6_isWord_50 rfl ?_
        refine G_icmp_ne (tgt := 71) hc dX6_isWord_51 (by decide) (fun c13 => ?_) (fun c13 => ?_)
        · have h := inn h c13
          refine G_iconst (v := 0) hc dX6_isWord_71 (by decide) ?_
          have h := Option.some.inj h
          subst h
          refine G_lv (lv' := [(0, .ref h_m), (1, .int a1), (5, .int a5), (6, .int a6), (7, .int t1)]) (lsame_cons rfl (lsame_cons rfl (lsame_cons rfl (lsame_cons rfl (lsame_cons rfl lsame_nil))))) ?_
          exact hj7
        · have h := ip h c13
          refine G_aload_n hc dX6_isWord_54 rfl ?_
          refine G_get hc f_X6_19 0 rfl rfl dX6_isWord_55 ?_
          refine G_iload_n hc dX6_isWord_58 rfl ?_
          refine G_iconst (v := 2) hc dX6_isWord_59 (by decide) ?_
          refine G_iadd hc dX6_isWord_60 ?_
          obtain ⟨v11, i_v11, e_v11, h⟩ := rb h
          refine G_iald hc 4 rfl i_v11 e_v11 dX6_isWord_61 ?_
          refine G_iload hc dX6_isWord_62 rfl ?_
          refine G_icmp_ne (tgt := 71) hc dX6_isWord_64 (by decide) (fun c12 => ?_) (fun c12 => ?_)
          · have h := inn h c12
            refine G_iconst (v := 0) hc dX6_isWord_71 (by decide) ?_
            have h := Option.some.inj h
            subst h
            refine G_lv (lv' := [(0, .ref h_m), (1, .int a1), (5, .int a5), (6, .int a6), (7, .int t1)]) (lsame_cons rfl (lsame_cons rfl (lsame_cons rfl (lsame_cons rfl (lsame_cons rfl lsame_nil))))) ?_
            exact hj7
          · have h := ip h c12
            refine G_iconst (v := 1) hc dX6_isWord_67 (by decide) ?_
            refine G_goto (tgt := 72) hc dX6_isWord_68 (by decide) ?_
            have h := Option.some.inj h
            subst h
            refine G_lv (lv' := [(0, .ref h_m), (1, .int a1), (5, .int a5), (6, .int a6), (7, .int t1)]) (lsame_cons rfl (lsame_cons rfl (lsame_cons rfl (lsame_cons rfl (lsame_cons rfl lsame_nil))))) ?_
            exact hj7
  clear h
  have h := hr3
  clear hr3
  refine G_if_le (tgt := 9) hc dX6_isWord_2 (by decide) (fun c5 => ?_) (fun c5 => ?_)
  · have h := ip h c5
    refine G_iload hc dX6_isWord_9 rfl ?_
    refine G_if_le (tgt := 18) hc dX6_isWord_11 (by decide) (fun c4 => ?_) (fun c4 => ?_)
    · have h := ip h c4
      refine G_iconst (v := 3) hc dX6_isWord_18 (by decide) ?_
      have h := Option.some.inj h
      subst h
      refine G_lv (lv' := [(0, .ref h_m), (1, .int a1), (2, .int a2), (3, .int a3), (4, .int a4), (5, .int a5), (6, .int a6)]) (lsame_cons rfl (lsame_cons rfl (lsame_cons rfl (lsame_cons rfl (lsame_cons rfl (lsame_cons rfl (lsame_cons rfl lsame_nil))))))) ?_
      exact hj2
    · have h := inn h c4
      refine G_iconst (v := 4) hc dX6_isWord_14 (by decide) ?_
      refine G_goto (tgt := 19) hc dX6_isWord_15 (by decide) ?_
      have h := Option.some.inj h
      subst h
      refine G_lv (lv' := [(0, .ref h_m), (1, .int a1), (2, .int a2), (3, .int a3), (4, .int a4), (5, .int a5), (6, .int a6)]) (lsame_cons rfl (lsame_cons rfl (lsame_cons rfl (lsame_cons rfl (lsame_cons rfl (lsame_cons rfl (lsame_cons rfl lsame_nil))))))) ?_
      exact hj2
  · have h := inn h c5
    refine G_iconst (v := 5) hc dX6_isWord_5 (by decide) ?_
    refine G_goto (tgt := 19) hc dX6_isWord_6 (by decide) ?_
    have h := Option.some.inj h
    subst h
    refine G_lv (lv' := [(0, .ref h_m), (1, .int a1), (2, .int a2), (3, .int a3), (4, .int a4), (5, .int a5), (6, .int a6)]) (lsame_cons rfl (lsame_cons rfl (lsame_cons rfl (lsame_cons rfl (lsame_cons rfl (lsame_cons rfl (lsame_cons rfl lsame_nil))))))) ?_
    exact hj2
set_option maxHeartbeats 4000000 in
set_option maxRecDepth 100000 in
theorem c_X6_wordAt (l : Launch) (D : va_G) (cI cS : ClassId) (X : XP) (F : Nat) (h_m h_m_s h_m_past h_m_held h_m_text h_m_now h_m_kept : Nat) (m_pasts : Int32) (m_runs0 : Int32) (m_typed : Int32) (m_spot : Int32) (m_reason : Int32) (m_cause : Int32) (m_orders : Int32) (m_kindNow : Int32) (m_placeNow : Int32) (m_s : Nat → Int32) (m_past : Nat → Int32) (m_held : Nat → Int32) (m_text : Nat → Int32) (m_now : Nat → Int32) (m_kept : Nat → Int32) (a1 : Int32) {res : Int32} (h : f_X6_wordAt F m_spot m_text a1 = some res) : CtI l D cI cS X yX6_wordAt cX6_wordAt 2 (some .int) 2 [.ref h_m, .int a1] [(h_m, .inr (6, [.ref h_m_s, .ref h_m_past, .ref h_m_held, .int m_pasts, .int m_runs0, .ref h_m_text, .int m_typed, .ref h_m_now, .ref h_m_kept, .int m_spot, .int m_reason, .int m_cause, .int m_orders, .int m_kindNow, .int m_placeNow])), (h_m_s, .inl (cI, 116, .inl m_s)), (h_m_past, .inl (cI, 464, .inl m_past)), (h_m_held, .inl (cI, 116, .inl m_held)), (h_m_text, .inl (cI, 60, .inl m_text)), (h_m_now, .inl (cI, 10, .inl m_now)), (h_m_kept, .inl (cI, 16, .inl m_kept))] (PoI res [(h_m, .inr (6, [.ref h_m_s, .ref h_m_past, .ref h_m_held, .int m_pasts, .int m_runs0, .ref h_m_text, .int m_typed, .ref h_m_now, .ref h_m_kept, .int m_spot, .int m_reason, .int m_cause, .int m_orders, .int m_kindNow, .int m_placeNow])), (h_m_s, .inl (cI, 116, .inl m_s)), (h_m_past, .inl (cI, 464, .inl m_past)), (h_m_held, .inl (cI, 116, .inl m_held)), (h_m_text, .inl (cI, 60, .inl m_text)), (h_m_now, .inl (cI, 10, .inl m_now)), (h_m_kept, .inl (cI, 16, .inl m_kept))]) := by
  refine CtI.of (by decide +kernel) rfl ?_
  intro p e s m below meth c A hc
  refine G_lv (lv' := [(0, .ref h_m), (1, .int a1)]) (lsame_cons rfl (lsame_cons rfl lsame_nil)) ?_
  unfold f_X6_wordAt at h
  refine G_aload_n hc dX6_wordAt_0 rfl ?_
  refine G_iload_n hc dX6_wordAt_1 rfl ?_
  refine G_bipush (v := 114) hc dX6_wordAt_2 (by decide) ?_
  refine G_bipush (v := 111) hc dX6_wordAt_4 (by decide) ?_
  refine G_bipush (v := 119) hc dX6_wordAt_6 (by decide) ?_
  refine G_iconst (v := 0) hc dX6_wordAt_8 (by decide) ?_
  refine G_iconst (v := 0) hc dX6_wordAt_9 (by decide) ?_
  obtain ⟨z1, hu2, h⟩ := ob h
  refine G_callVI (ws2 := [(h_m, .inr (6, [.ref h_m_s, .ref h_m_past, .ref h_m_held, .int m_pasts, .int m_runs0, .ref h_m_text, .int m_typed, .ref h_m_now, .ref h_m_kept, .int m_spot, .int m_reason, .int m_cause, .int m_orders, .int m_kindNow, .int m_placeNow])), (h_m_s, .inl (cI, 116, .inl m_s)), (h_m_past, .inl (cI, 464, .inl m_past)), (h_m_held, .inl (cI, 116, .inl m_held)), (h_m_text, .inl (cI, 60, .inl m_text)), (h_m_now, .inl (cI, 10, .inl m_now)), (h_m_kept, .inl (cI, 16, .inl m_kept))]) hc m_X6_125 (c_X6_isWord l D cI cS X F h_m h_m_s h_m_past h_m_held h_m_text h_m_now h_m_kept m_pasts m_runs0 m_typed m_spot m_reason m_cause m_orders m_kindNow m_placeNow m_s m_past m_held m_text m_now m_kept a1 (114 : Int32) (111 : Int32) (119 : Int32) (0 : Int32) (0 : Int32) hu2) 0 [0, 1, 2, 3, 4, 5, 6] rfl rfl (rmok_of (Nat.le_of_ble_eq_true rfl)) ⟨Nat.zero_le _, Nat.zero_le _⟩ rfl rfl rfl rfl rfl ⟨rfl, rfl, rfl⟩ dX6_wordAt_10 ?_
  refine G_if_eq (tgt := 18) hc dX6_wordAt_13 (by decide) (fun c18 => ?_) (fun c18 => ?_)
  · have h := ip h c18
    refine G_aload_n hc dX6_wordAt_18 rfl ?_
    refine G_iload_n hc dX6_wordAt_19 rfl ?_
    refine G_bipush (v := 116) hc dX6_wordAt_20 (by decide) ?_
    refine G_bipush (v := 117) hc dX6_wordAt_22 (by decide) ?_
    refine G_bipush (v := 114) hc dX6_wordAt_24 (by decide) ?_
    refine G_bipush (v := 110) hc dX6_wordAt_26 (by decide) ?_
    refine G_iconst (v := 0) hc dX6_wordAt_28 (by decide) ?_
    obtain ⟨z3, hu4, h⟩ := ob h
    refine G_callVI (ws2 := [(h_m, .inr (6, [.ref h_m_s, .ref h_m_past, .ref h_m_held, .int m_pasts, .int m_runs0, .ref h_m_text, .int m_typed, .ref h_m_now, .ref h_m_kept, .int m_spot, .int m_reason, .int m_cause, .int m_orders, .int m_kindNow, .int m_placeNow])), (h_m_s, .inl (cI, 116, .inl m_s)), (h_m_past, .inl (cI, 464, .inl m_past)), (h_m_held, .inl (cI, 116, .inl m_held)), (h_m_text, .inl (cI, 60, .inl m_text)), (h_m_now, .inl (cI, 10, .inl m_now)), (h_m_kept, .inl (cI, 16, .inl m_kept))]) hc m_X6_125 (c_X6_isWord l D cI cS X F h_m h_m_s h_m_past h_m_held h_m_text h_m_now h_m_kept m_pasts m_runs0 m_typed m_spot m_reason m_cause m_orders m_kindNow m_placeNow m_s m_past m_held m_text m_now m_kept a1 (116 : Int32) (117 : Int32) (114 : Int32) (110 : Int32) (0 : Int32) hu4) 0 [0, 1, 2, 3, 4, 5, 6] rfl rfl (rmok_of (Nat.le_of_ble_eq_true rfl)) ⟨Nat.zero_le _, Nat.zero_le _⟩ rfl rfl rfl rfl rfl ⟨rfl, rfl, rfl⟩ dX6_wordAt_29 ?_
    refine G_if_eq (tgt := 37) hc dX6_wordAt_32 (by decide) (fun c17 => ?_) (fun c17 => ?_)
    · have h := ip h c17
      refine G_aload_n hc dX6_wordAt_37 rfl ?_
      refine G_iload_n hc dX6_wordAt_38 rfl ?_
      refine G_bipush (v := 110) hc dX6_wordAt_39 (by decide) ?_
      refine G_bipush (v := 101) hc dX6_wordAt_41 (by decide) ?_
      refine G_bipush (v := 120) hc dX6_wordAt_43 (by decide) ?_
      refine G_bipush (v := 116) hc dX6_wordAt_45 (by decide) ?_
      refine G_iconst (v := 0) hc dX6_wordAt_47 (by decide) ?_
      obtain ⟨z5, hu6, h⟩ := ob h
      refine G_callVI (ws2 := [(h_m, .inr (6, [.ref h_m_s, .ref h_m_past, .ref h_m_held, .int m_pasts, .int m_runs0, .ref h_m_text, .int m_typed, .ref h_m_now, .ref h_m_kept, .int m_spot, .int m_reason, .int m_cause, .int m_orders, .int m_kindNow, .int m_placeNow])), (h_m_s, .inl (cI, 116, .inl m_s)), (h_m_past, .inl (cI, 464, .inl m_past)), (h_m_held, .inl (cI, 116, .inl m_held)), (h_m_text, .inl (cI, 60, .inl m_text)), (h_m_now, .inl (cI, 10, .inl m_now)), (h_m_kept, .inl (cI, 16, .inl m_kept))]) hc m_X6_125 (c_X6_isWord l D cI cS X F h_m h_m_s h_m_past h_m_held h_m_text h_m_now h_m_kept m_pasts m_runs0 m_typed m_spot m_reason m_cause m_orders m_kindNow m_placeNow m_s m_past m_held m_text m_now m_kept a1 (110 : Int32) (101 : Int32) (120 : Int32) (116 : Int32) (0 : Int32) hu6) 0 [0, 1, 2, 3, 4, 5, 6] rfl rfl (rmok_of (Nat.le_of_ble_eq_true rfl)) ⟨Nat.zero_le _, Nat.zero_le _⟩ rfl rfl rfl rfl rfl ⟨rfl, rfl, rfl⟩ dX6_wordAt_48 ?_
      refine G_if_eq (tgt := 56) hc dX6_wordAt_51 (by decide) (fun c16 => ?_) (fun c16 => ?_)
      · have h := ip h c16
        refine G_aload_n hc dX6_wordAt_56 rfl ?_
        refine G_iload_n hc dX6_wordAt_57 rfl ?_
        refine G_bipush (v := 112) hc dX6_wordAt_58 (by decide) ?_
        refine G_bipush (v := 108) hc dX6_wordAt_60 (by decide) ?_
        refine G_bipush (v := 97) hc dX6_wordAt_62 (by decide) ?_
        refine G_bipush (v := 99) hc dX6_wordAt_64 (by decide) ?_
        refine G_bipush (v := 101) hc dX6_wordAt_66 (by decide) ?_
        obtain ⟨z7, hu8, h⟩ := ob h
        refine G_callVI (ws2 := [(h_m, .inr (6, [.ref h_m_s, .ref h_m_past, .ref h_m_held, .int m_pasts, .int m_runs0, .ref h_m_text, .int m_typed, .ref h_m_now, .ref h_m_kept, .int m_spot, .int m_reason, .int m_cause, .int m_orders, .int m_kindNow, .int m_placeNow])), (h_m_s, .inl (cI, 116, .inl m_s)), (h_m_past, .inl (cI, 464, .inl m_past)), (h_m_held, .inl (cI, 116, .inl m_held)), (h_m_text, .inl (cI, 60, .inl m_text)), (h_m_now, .inl (cI, 10, .inl m_now)), (h_m_kept, .inl (cI, 16, .inl m_kept))]) hc m_X6_125 (c_X6_isWord l D cI cS X F h_m h_m_s h_m_past h_m_held h_m_text h_m_now h_m_kept m_pasts m_runs0 m_typed m_spot m_reason m_cause m_orders m_kindNow m_placeNow m_s m_past m_held m_text m_now m_kept a1 (112 : Int32) (108 : Int32) (97 : Int32) (99 : Int32) (101 : Int32) hu8) 0 [0, 1, 2, 3, 4, 5, 6] rfl rfl (rmok_of (Nat.le_of_ble_eq_true rfl)) ⟨Nat.zero_le _, Nat.zero_le _⟩ rfl rfl rfl rfl rfl ⟨rfl, rfl, rfl⟩ dX6_wordAt_68 ?_
        obtain ⟨t9, hr11, h⟩ := ob h
        have hj10 : G p l e (rmk 2) s m [.ref h_m, .int a1].toArray below meth c D A 2 0 0 (QI below [.ref h_m, .int a1].toArray s D A (PoI res [(h_m, .inr (6, [.ref h_m_s, .ref h_m_past, .ref h_m_held, .int m_pasts, .int m_runs0, .ref h_m_text, .int m_typed, .ref h_m_now, .ref h_m_kept, .int m_spot, .int m_reason, .int m_cause, .int m_orders, .int m_kindNow, .int m_placeNow])), (h_m_s, .inl (cI, 116, .inl m_s)), (h_m_past, .inl (cI, 464, .inl m_past)), (h_m_held, .inl (cI, 116, .inl m_held)), (h_m_text, .inl (cI, 60, .inl m_text)), (h_m_now, .inl (cI, 10, .inl m_now)), (h_m_kept, .inl (cI, 16, .inl m_kept))])) [(h_m, .inr (6, [.ref h_m_s, .ref h_m_past, .ref h_m_held, .int m_pasts, .int m_runs0, .ref h_m_text, .int m_typed, .ref h_m_now, .ref h_m_kept, .int m_spot, .int m_reason, .int m_cause, .int m_orders, .int m_kindNow, .int m_placeNow])), (h_m_s, .inl (cI, 116, .inl m_s)), (h_m_past, .inl (cI, 464, .inl m_past)), (h_m_held, .inl (cI, 116, .inl m_held)), (h_m_text, .inl (cI, 60, .inl m_text)), (h_m_now, .inl (cI, 10, .inl m_now)), (h_m_kept, .inl (cI, 16, .inl m_kept))] [] 101 [.int t9] := by
          have h := Option.some.inj h
          subst h
          exact G_ireturn hc ⟨rfl, rfl⟩ dX6_wordAt_101
        clear h
        have h := hr11
        clear hr11
        refine G_if_eq (tgt := 78) hc dX6_wordAt_71 (by decide) (fun c15 => ?_) (fun c15 => ?_)
        · have h := ip h c15
          refine G_aload_n hc dX6_wordAt_78 rfl ?_
          refine G_iload_n hc dX6_wordAt_79 rfl ?_
          refine G_bipush (v := 107) hc dX6_wordAt_80 (by decide) ?_
          refine G_bipush (v := 101) hc dX6_wordAt_82 (by decide) ?_
          refine G_bipush (v := 101) hc dX6_wordAt_84 (by decide) ?_
          refine G_bipush (v := 112) hc dX6_wordAt_86 (by decide) ?_
          refine G_iconst (v := 0) hc dX6_wordAt_88 (by decide) ?_
          obtain ⟨z12, hu13, h⟩ := ob h
          refine G_callVI (ws2 := [(h_m, .inr (6, [.ref h_m_s, .ref h_m_past, .ref h_m_held, .int m_pasts, .int m_runs0, .ref h_m_text, .int m_typed, .ref h_m_now, .ref h_m_kept, .int m_spot, .int m_reason, .int m_cause, .int m_orders, .int m_kindNow, .int m_placeNow])), (h_m_s, .inl (cI, 116, .inl m_s)), (h_m_past, .inl (cI, 464, .inl m_past)), (h_m_held, .inl (cI, 116, .inl m_held)), (h_m_text, .inl (cI, 60, .inl m_text)), (h_m_now, .inl (cI, 10, .inl m_now)), (h_m_kept, .inl (cI, 16, .inl m_kept))]) hc m_X6_125 (c_X6_isWord l D cI cS X F h_m h_m_s h_m_past h_m_held h_m_text h_m_now h_m_kept m_pasts m_runs0 m_typed m_spot m_reason m_cause m_orders m_kindNow m_placeNow m_s m_past m_held m_text m_now m_kept a1 (107 : Int32) (101 : Int32) (101 : Int32) (112 : Int32) (0 : Int32) hu13) 0 [0, 1, 2, 3, 4, 5, 6] rfl rfl (rmok_of (Nat.le_of_ble_eq_true rfl)) ⟨Nat.zero_le _, Nat.zero_le _⟩ rfl rfl rfl rfl rfl ⟨rfl, rfl, rfl⟩ dX6_wordAt_89 ?_
          refine G_if_eq (tgt := 99) hc dX6_wordAt_92 (by decide) (fun c14 => ?_) (fun c14 => ?_)
          · have h := ip h c14
            refine G_ldc (v := -1000004) hc k_X6_50 dX6_wordAt_99 ?_
            have h := Option.some.inj h
            subst h
            refine G_lv (lv' := []) lsame_nil ?_
            exact hj10
          · have h := inn h c14
            refine G_iconst (v := 4) hc dX6_wordAt_95 (by decide) ?_
            refine G_goto (tgt := 101) hc dX6_wordAt_96 (by decide) ?_
            have h := Option.some.inj h
            subst h
            refine G_lv (lv' := []) lsame_nil ?_
            exact hj10
        · have h := inn h c15
          refine G_iconst (v := 3) hc dX6_wordAt_74 (by decide) ?_
          refine G_goto (tgt := 101) hc dX6_wordAt_75 (by decide) ?_
          have h := Option.some.inj h
          subst h
          refine G_lv (lv' := []) lsame_nil ?_
          exact hj10
      · have h := inn h c16
        refine G_iconst (v := 2) hc dX6_wordAt_54 (by decide) ?_
        have h := Option.some.inj h
        subst h
        exact G_ireturn hc ⟨rfl, rfl⟩ dX6_wordAt_55
    · have h := inn h c17
      refine G_iconst (v := 1) hc dX6_wordAt_35 (by decide) ?_
      have h := Option.some.inj h
      subst h
      exact G_ireturn hc ⟨rfl, rfl⟩ dX6_wordAt_36
  · have h := inn h c18
    refine G_iconst (v := 0) hc dX6_wordAt_16 (by decide) ?_
    have h := Option.some.inj h
    subst h
    exact G_ireturn hc ⟨rfl, rfl⟩ dX6_wordAt_17
set_option maxHeartbeats 4000000 in
set_option maxRecDepth 100000 in
theorem c_X6_passes (l : Launch) (D : va_G) (cI cS : ClassId) (X : XP) (F : Nat) (h_m h_m_s h_m_past h_m_held h_m_text h_m_now h_m_kept : Nat) (m_pasts : Int32) (m_runs0 : Int32) (m_typed : Int32) (m_spot : Int32) (m_reason : Int32) (m_cause : Int32) (m_orders : Int32) (m_kindNow : Int32) (m_placeNow : Int32) (m_s : Nat → Int32) (m_past : Nat → Int32) (m_held : Nat → Int32) (m_text : Nat → Int32) (m_now : Nat → Int32) (m_kept : Nat → Int32) (a1 : Int32) {res : Int32 × Int32} (h : f_X6_passes F m_typed m_spot m_text a1 = some res) : CtI l D cI cS X yX6_passes cX6_passes 3 (some .boolean) 3 [.ref h_m, .int a1] [(h_m, .inr (6, [.ref h_m_s, .ref h_m_past, .ref h_m_held, .int m_pasts, .int m_runs0, .ref h_m_text, .int m_typed, .ref h_m_now, .ref h_m_kept, .int m_spot, .int m_reason, .int m_cause, .int m_orders, .int m_kindNow, .int m_placeNow])), (h_m_s, .inl (cI, 116, .inl m_s)), (h_m_past, .inl (cI, 464, .inl m_past)), (h_m_held, .inl (cI, 116, .inl m_held)), (h_m_text, .inl (cI, 60, .inl m_text)), (h_m_now, .inl (cI, 10, .inl m_now)), (h_m_kept, .inl (cI, 16, .inl m_kept))] (PoI res.1 [(h_m, .inr (6, [.ref h_m_s, .ref h_m_past, .ref h_m_held, .int m_pasts, .int m_runs0, .ref h_m_text, .int m_typed, .ref h_m_now, .ref h_m_kept, .int res.2, .int m_reason, .int m_cause, .int m_orders, .int m_kindNow, .int m_placeNow])), (h_m_s, .inl (cI, 116, .inl m_s)), (h_m_past, .inl (cI, 464, .inl m_past)), (h_m_held, .inl (cI, 116, .inl m_held)), (h_m_text, .inl (cI, 60, .inl m_text)), (h_m_now, .inl (cI, 10, .inl m_now)), (h_m_kept, .inl (cI, 16, .inl m_kept))]) := by
  refine CtI.of (by decide +kernel) rfl ?_
  intro p e s m below meth c A hc
  refine G_lv (lv' := [(0, .ref h_m), (1, .int a1)]) (lsame_cons rfl (lsame_cons rfl lsame_nil)) ?_
  unfold f_X6_passes at h
  refine G_aload_n hc dX6_passes_0 rfl ?_
  refine G_iload_n hc dX6_passes_1 rfl ?_
  refine G_iload_n hc dX6_passes_2 rfl ?_
  obtain ⟨z1, hu2, h⟩ := ob h
  refine G_callVI (ws2 := [(h_m, .inr (6, [.ref h_m_s, .ref h_m_past, .ref h_m_held, .int m_pasts, .int m_runs0, .ref h_m_text, .int m_typed, .ref h_m_now, .ref h_m_kept, .int m_spot, .int m_reason, .int m_cause, .int m_orders, .int m_kindNow, .int m_placeNow])), (h_m_s, .inl (cI, 116, .inl m_s)), (h_m_past, .inl (cI, 464, .inl m_past)), (h_m_held, .inl (cI, 116, .inl m_held)), (h_m_text, .inl (cI, 60, .inl m_text)), (h_m_now, .inl (cI, 10, .inl m_now)), (h_m_kept, .inl (cI, 16, .inl m_kept))]) hc m_X6_129 (c_X6_isAt l D cI cS X F h_m h_m_s h_m_past h_m_held h_m_text h_m_now h_m_kept m_pasts m_runs0 m_typed m_spot m_reason m_cause m_orders m_kindNow m_placeNow m_s m_past m_held m_text m_now m_kept a1 a1 hu2) 0 [0, 1, 2, 3, 4, 5, 6] rfl rfl (rmok_of (Nat.le_of_ble_eq_true rfl)) ⟨Nat.zero_le _, Nat.zero_le _⟩ rfl rfl rfl rfl rfl ⟨rfl, rfl, rfl⟩ dX6_passes_3 ?_
  refine G_istore_n (lv' := [(0, .ref h_m), (1, .int a1), (2, .int z1)]) hc dX6_passes_6 rfl rfl ?_
  refine G_aload_n hc dX6_passes_7 rfl ?_
  refine G_dup hc dX6_passes_8 rfl ?_
  refine G_get hc f_X6_122 0 rfl rfl dX6_passes_9 ?_
  refine G_iload_n hc dX6_passes_12 rfl ?_
  obtain ⟨t3, hr5, h⟩ := ob h
  have hj4 : G p l e (rmk 3) s m [.ref h_m, .int a1].toArray below meth c D A 3 0 0 (QI below [.ref h_m, .int a1].toArray s D A (PoI res.1 [(h_m, .inr (6, [.ref h_m_s, .ref h_m_past, .ref h_m_held, .int m_pasts, .int m_runs0, .ref h_m_text, .int m_typed, .ref h_m_now, .ref h_m_kept, .int res.2, .int m_reason, .int m_cause, .int m_orders, .int m_kindNow, .int m_placeNow])), (h_m_s, .inl (cI, 116, .inl m_s)), (h_m_past, .inl (cI, 464, .inl m_past)), (h_m_held, .inl (cI, 116, .inl m_held)), (h_m_text, .inl (cI, 60, .inl m_text)), (h_m_now, .inl (cI, 10, .inl m_now)), (h_m_kept, .inl (cI, 16, .inl m_kept))])) [(h_m, .inr (6, [.ref h_m_s, .ref h_m_past, .ref h_m_held, .int m_pasts, .int m_runs0, .ref h_m_text, .int m_typed, .ref h_m_now, .ref h_m_kept, .int m_spot, .int m_reason, .int m_cause, .int m_orders, .int m_kindNow, .int m_placeNow])), (h_m_s, .inl (cI, 116, .inl m_s)), (h_m_past, .inl (cI, 464, .inl m_past)), (h_m_held, .inl (cI, 116, .inl m_held)), (h_m_text, .inl (cI, 60, .inl m_text)), (h_m_now, .inl (cI, 10, .inl m_now)), (h_m_kept, .inl (cI, 16, .inl m_kept))] [(2, .int z1)] 21 [.int t3, .int m_spot, .ref h_m] := by
    refine G_iadd hc dX6_passes_21 ?_
    obtain ⟨v7, e_v7, h⟩ := sb h
    refine G_top e_v7 ?_
    refine G_puti (ws' := [(h_m, .inr (6, [.ref h_m_s, .ref h_m_past, .ref h_m_held, .int m_pasts, .int m_runs0, .ref h_m_text, .int m_typed, .ref h_m_now, .ref h_m_kept, .int v7, .int m_reason, .int m_cause, .int m_orders, .int m_kindNow, .int m_placeNow])), (h_m_s, .inl (cI, 116, .inl m_s)), (h_m_past, .inl (cI, 464, .inl m_past)), (h_m_held, .inl (cI, 116, .inl m_held)), (h_m_text, .inl (cI, 60, .inl m_text)), (h_m_now, .inl (cI, 10, .inl m_now)), (h_m_kept, .inl (cI, 16, .inl m_kept))]) hc f_X6_122 p_X6_9 0 rfl rfl rfl dX6_passes_22 ?_
    refine G_iload_n hc dX6_passes_25 rfl ?_
    obtain ⟨hz8, h⟩ := zb h
    have h := Option.some.inj h
    subst h
    exact G_zreturn hc hz8 ⟨rfl, rfl⟩ dX6_passes_26
  clear h
  have h := hr5
  clear hr5
  refine G_if_eq (tgt := 20) hc dX6_passes_13 (by decide) (fun c6 => ?_) (fun c6 => ?_)
  · have h := ip h c6
    refine G_iconst (v := 0) hc dX6_passes_20 (by decide) ?_
    have h := Option.some.inj h
    subst h
    refine G_lv (lv' := [(2, .int z1)]) (lsame_cons rfl lsame_nil) ?_
    exact hj4
  · have h := inn h c6
    refine G_iconst (v := 1) hc dX6_passes_16 (by decide) ?_
    refine G_goto (tgt := 21) hc dX6_passes_17 (by decide) ?_
    have h := Option.some.inj h
    subst h
    refine G_lv (lv' := [(2, .int z1)]) (lsame_cons rfl lsame_nil) ?_
    exact hj4
set_option maxHeartbeats 4000000 in
set_option maxRecDepth 100000 in
theorem c_X6_lettersRead (l : Launch) (D : va_G) (cI cS : ClassId) (X : XP) (F : Nat) (h_m h_m_s h_m_past h_m_held h_m_text h_m_now h_m_kept : Nat) (m_pasts : Int32) (m_runs0 : Int32) (m_typed : Int32) (m_spot : Int32) (m_reason : Int32) (m_cause : Int32) (m_orders : Int32) (m_kindNow : Int32) (m_placeNow : Int32) (m_s : Nat → Int32) (m_past : Nat → Int32) (m_held : Nat → Int32) (m_text : Nat → Int32) (m_now : Nat → Int32) (m_kept : Nat → Int32) {res : Int32 × Int32} (h : f_X6_lettersRead F m_typed m_spot m_text = some res) : CtI l D cI cS X yX6_lettersRead cX6_lettersRead 2 (some .boolean) 3 [.ref h_m] [(h_m, .inr (6, [.ref h_m_s, .ref h_m_past, .ref h_m_held, .int m_pasts, .int m_runs0, .ref h_m_text, .int m_typed, .ref h_m_now, .ref h_m_kept, .int m_spot, .int m_reason, .int m_cause, .int m_orders, .int m_kindNow, .int m_placeNow])), (h_m_s, .inl (cI, 116, .inl m_s)), (h_m_past, .inl (cI, 464, .inl m_past)), (h_m_held, .inl (cI, 116, .inl m_held)), (h_m_text, .inl (cI, 60, .inl m_text)), (h_m_now, .inl (cI, 10, .inl m_now)), (h_m_kept, .inl (cI, 16, .inl m_kept))] (PoI res.1 [(h_m, .inr (6, [.ref h_m_s, .ref h_m_past, .ref h_m_held, .int m_pasts, .int m_runs0, .ref h_m_text, .int m_typed, .ref h_m_now, .ref h_m_kept, .int res.2, .int m_reason, .int m_cause, .int m_orders, .int m_kindNow, .int m_placeNow])), (h_m_s, .inl (cI, 116, .inl m_s)), (h_m_past, .inl (cI, 464, .inl m_past)), (h_m_held, .inl (cI, 116, .inl m_held)), (h_m_text, .inl (cI, 60, .inl m_text)), (h_m_now, .inl (cI, 10, .inl m_now)), (h_m_kept, .inl (cI, 16, .inl m_kept))]) := by
  refine CtI.of (by decide +kernel) rfl ?_
  intro p e s m below meth c A hc
  refine G_lv (lv' := [(0, .ref h_m)]) (lsame_cons rfl lsame_nil) ?_
  unfold f_X6_lettersRead at h
  refine G_aload_n hc dX6_lettersRead_0 rfl ?_
  refine G_get hc f_X6_122 0 rfl rfl dX6_lettersRead_1 ?_
  refine G_istore_n (lv' := [(0, .ref h_m), (1, .int m_spot)]) hc dX6_lettersRead_4 rfl rfl ?_
  obtain ⟨e2, hl3, h⟩ := ob h
  have hK7 : G p l e (rmk 3) s m [.ref h_m].toArray below meth c D A 2 0 0 (QI below [.ref h_m].toArray s D A (PoI res.1 [(h_m, .inr (6, [.ref h_m_s, .ref h_m_past, .ref h_m_held, .int m_pasts, .int m_runs0, .ref h_m_text, .int m_typed, .ref h_m_now, .ref h_m_kept, .int res.2, .int m_reason, .int m_cause, .int m_orders, .int m_kindNow, .int m_placeNow])), (h_m_s, .inl (cI, 116, .inl m_s)), (h_m_past, .inl (cI, 464, .inl m_past)), (h_m_held, .inl (cI, 116, .inl m_held)), (h_m_text, .inl (cI, 60, .inl m_text)), (h_m_now, .inl (cI, 10, .inl m_now)), (h_m_kept, .inl (cI, 16, .inl m_kept))])) [(h_m, .inr (6, [.ref h_m_s, .ref h_m_past, .ref h_m_held, .int m_pasts, .int m_runs0, .ref h_m_text, .int m_typed, .ref h_m_now, .ref h_m_kept, .int e2, .int m_reason, .int m_cause, .int m_orders, .int m_kindNow, .int m_placeNow])), (h_m_s, .inl (cI, 116, .inl m_s)), (h_m_past, .inl (cI, 464, .inl m_past)), (h_m_held, .inl (cI, 116, .inl m_held)), (h_m_text, .inl (cI, 60, .inl m_text)), (h_m_now, .inl (cI, 10, .inl m_now)), (h_m_kept, .inl (cI, 16, .inl m_kept))] [(0, .ref h_m), (1, .int m_spot)] 40 [] := by
    refine G_aload_n hc dX6_lettersRead_40 rfl ?_
    refine G_get hc f_X6_122 0 rfl rfl dX6_lettersRead_41 ?_
    refine G_iload_n hc dX6_lettersRead_44 rfl ?_
    obtain ⟨t13, hr15, h⟩ := ob h
    have hj14 : G p l e (rmk 3) s m [.ref h_m].toArray below meth c D A 2 0 0 (QI below [.ref h_m].toArray s D A (PoI res.1 [(h_m, .inr (6, [.ref h_m_s, .ref h_m_past, .ref h_m_held, .int m_pasts, .int m_runs0, .ref h_m_text, .int m_typed, .ref h_m_now, .ref h_m_kept, .int res.2, .int m_reason, .int m_cause, .int m_orders, .int m_kindNow, .int m_placeNow])), (h_m_s, .inl (cI, 116, .inl m_s)), (h_m_past, .inl (cI, 464, .inl m_past)), (h_m_held, .inl (cI, 116, .inl m_held)), (h_m_text, .inl (cI, 60, .inl m_text)), (h_m_now, .inl (cI, 10, .inl m_now)), (h_m_kept, .inl (cI, 16, .inl m_kept))])) [(h_m, .inr (6, [.ref h_m_s, .ref h_m_past, .ref h_m_held, .int m_pasts, .int m_runs0, .ref h_m_text, .int m_typed, .ref h_m_now, .ref h_m_kept, .int e2, .int m_reason, .int m_cause, .int m_orders, .int m_kindNow, .int m_placeNow])), (h_m_s, .inl (cI, 116, .inl m_s)), (h_m_past, .inl (cI, 464, .inl m_past)), (h_m_held, .inl (cI, 116, .inl m_held)), (h_m_text, .inl (cI, 60, .inl m_text)), (h_m_now, .inl (cI, 10, .inl m_now)), (h_m_kept, .inl (cI, 16, .inl m_kept))] [] 53 [.int t13] := by
      obtain ⟨hz17, h⟩ := zb h
      have h := Option.some.inj h
      subst h
      exact G_zreturn hc hz17 ⟨rfl, rfl⟩ dX6_lettersRead_53
    clear h
    have h := hr15
    clear hr15
    refine G_icmp_le (tgt := 52) hc dX6_lettersRead_45 (by decide) (fun c16 => ?_) (fun c16 => ?_)
    · have h := ip h c16
      refine G_iconst (v := 0) hc dX6_lettersRead_52 (by decide) ?_
      have h := Option.some.inj h
      subst h
      refine G_lv (lv' := []) lsame_nil ?_
      exact hj14
    · have h := inn h c16
      refine G_iconst (v := 1) hc dX6_lettersRead_48 (by decide) ?_
      refine G_goto (tgt := 53) hc dX6_lettersRead_49 (by decide) ?_
      have h := Option.some.inj h
      subst h
      refine G_lv (lv' := []) lsame_nil ?_
      exact hj14
  clear h
  have hL4 : ∀ (n5 : Nat) (u1 : Int32), f_X6_lettersRead_L5 F m_typed m_spot m_text n5 u1 = some e2 → G p l e (rmk 3) s m [.ref h_m].toArray below meth c D A 2 0 0 (QI below [.ref h_m].toArray s D A (PoI res.1 [(h_m, .inr (6, [.ref h_m_s, .ref h_m_past, .ref h_m_held, .int m_pasts, .int m_runs0, .ref h_m_text, .int m_typed, .ref h_m_now, .ref h_m_kept, .int res.2, .int m_reason, .int m_cause, .int m_orders, .int m_kindNow, .int m_placeNow])), (h_m_s, .inl (cI, 116, .inl m_s)), (h_m_past, .inl (cI, 464, .inl m_past)), (h_m_held, .inl (cI, 116, .inl m_held)), (h_m_text, .inl (cI, 60, .inl m_text)), (h_m_now, .inl (cI, 10, .inl m_now)), (h_m_kept, .inl (cI, 16, .inl m_kept))])) [(h_m, .inr (6, [.ref h_m_s, .ref h_m_past, .ref h_m_held, .int m_pasts, .int m_runs0, .ref h_m_text, .int m_typed, .ref h_m_now, .ref h_m_kept, .int u1, .int m_reason, .int m_cause, .int m_orders, .int m_kindNow, .int m_placeNow])), (h_m_s, .inl (cI, 116, .inl m_s)), (h_m_past, .inl (cI, 464, .inl m_past)), (h_m_held, .inl (cI, 116, .inl m_held)), (h_m_text, .inl (cI, 60, .inl m_text)), (h_m_now, .inl (cI, 10, .inl m_now)), (h_m_kept, .inl (cI, 16, .inl m_kept))] [(0, .ref h_m), (1, .int m_spot)] 5 [] := by
    intro n5
    induction n5 with
    | zero =>
      intro u1 h
      exact nz h
    | succ n5 ih6 =>
      intro u1 h
      rw [f_X6_lettersRead_L5] at h
      refine G_aload_n hc dX6_lettersRead_5 rfl ?_
      refine G_bipush (v := 97) hc dX6_lettersRead_6 (by decide) ?_
      refine G_bipush (v := 100) hc dX6_lettersRead_8 (by decide) ?_
      obtain ⟨z8, hu9, h⟩ := ob h
      refine G_callVI (ws2 := [(h_m, .inr (6, [.ref h_m_s, .ref h_m_past, .ref h_m_held, .int m_pasts, .int m_runs0, .ref h_m_text, .int m_typed, .ref h_m_now, .ref h_m_kept, .int u1, .int m_reason, .int m_cause, .int m_orders, .int m_kindNow, .int m_placeNow])), (h_m_s, .inl (cI, 116, .inl m_s)), (h_m_past, .inl (cI, 464, .inl m_past)), (h_m_held, .inl (cI, 116, .inl m_held)), (h_m_text, .inl (cI, 60, .inl m_text)), (h_m_now, .inl (cI, 10, .inl m_now)), (h_m_kept, .inl (cI, 16, .inl m_kept))]) hc m_X6_129 (c_X6_isAt l D cI cS X F h_m h_m_s h_m_past h_m_held h_m_text h_m_now h_m_kept m_pasts m_runs0 m_typed u1 m_reason m_cause m_orders m_kindNow m_placeNow m_s m_past m_held m_text m_now m_kept (97 : Int32) (100 : Int32) hu9) 0 [0, 1, 2, 3, 4, 5, 6] rfl rfl (rmok_of (Nat.le_of_ble_eq_true rfl)) ⟨Nat.zero_le _, Nat.zero_le _⟩ rfl rfl rfl rfl rfl ⟨rfl, rfl, rfl⟩ dX6_lettersRead_10 ?_
      refine G_if_eq (tgt := 40) hc dX6_lettersRead_13 (by decide) (fun c12 => ?_) (fun c12 => ?_)
      · have h := ip h c12
        have h := Option.some.inj h
        subst h
        refine G_lv (lv' := [(0, .ref h_m), (1, .int m_spot)]) (lsame_cons rfl (lsame_cons rfl lsame_nil)) ?_
        exact hK7
      · have h := inn h c12
        refine G_aload_n hc dX6_lettersRead_16 rfl ?_
        refine G_get hc f_X6_122 0 rfl rfl dX6_lettersRead_17 ?_
        refine G_iload_n hc dX6_lettersRead_20 rfl ?_
        refine G_isub hc dX6_lettersRead_21 ?_
        refine G_bipush (v := 10) hc dX6_lettersRead_22 (by decide) ?_
        refine G_icmp_ge (tgt := 40) hc dX6_lettersRead_24 (by decide) (fun c11 => ?_) (fun c11 => ?_)
        · have h := ip h c11
          have h := Option.some.inj h
          subst h
          refine G_lv (lv' := [(0, .ref h_m), (1, .int m_spot)]) (lsame_cons rfl (lsame_cons rfl lsame_nil)) ?_
          exact hK7
        · have h := inn h c11
          refine G_aload_n hc dX6_lettersRead_27 rfl ?_
          refine G_dup hc dX6_lettersRead_28 rfl ?_
          refine G_get hc f_X6_122 0 rfl rfl dX6_lettersRead_29 ?_
          refine G_iconst (v := 1) hc dX6_lettersRead_32 (by decide) ?_
          refine G_iadd hc dX6_lettersRead_33 ?_
          obtain ⟨v10, e_v10, h⟩ := sb h
          refine G_top e_v10 ?_
          refine G_puti (ws' := [(h_m, .inr (6, [.ref h_m_s, .ref h_m_past, .ref h_m_held, .int m_pasts, .int m_runs0, .ref h_m_text, .int m_typed, .ref h_m_now, .ref h_m_kept, .int v10, .int m_reason, .int m_cause, .int m_orders, .int m_kindNow, .int m_placeNow])), (h_m_s, .inl (cI, 116, .inl m_s)), (h_m_past, .inl (cI, 464, .inl m_past)), (h_m_held, .inl (cI, 116, .inl m_held)), (h_m_text, .inl (cI, 60, .inl m_text)), (h_m_now, .inl (cI, 10, .inl m_now)), (h_m_kept, .inl (cI, 16, .inl m_kept))]) hc f_X6_122 p_X6_9 0 rfl rfl rfl dX6_lettersRead_34 ?_
          refine G_goto (tgt := 5) hc dX6_lettersRead_37 (by decide) ?_
          refine G_lv (lv' := [(0, .ref h_m), (1, .int m_spot)]) (lsame_cons rfl (lsame_cons rfl lsame_nil)) ?_
          exact ih6 _ h
  refine G_lv (lv' := [(0, .ref h_m), (1, .int m_spot)]) (lsame_cons rfl (lsame_cons rfl lsame_nil)) ?_
  exact hL4 F _ hl3
set_option maxHeartbeats 4000000 in
set_option maxRecDepth 100000 in
theorem c_X6_kindRead (l : Launch) (D : va_G) (cI cS : ClassId) (X : XP) (F : Nat) (h_m h_m_s h_m_past h_m_held h_m_text h_m_now h_m_kept : Nat) (m_pasts : Int32) (m_runs0 : Int32) (m_typed : Int32) (m_spot : Int32) (m_reason : Int32) (m_cause : Int32) (m_orders : Int32) (m_kindNow : Int32) (m_placeNow : Int32) (m_s : Nat → Int32) (m_past : Nat → Int32) (m_held : Nat → Int32) (m_text : Nat → Int32) (m_now : Nat → Int32) (m_kept : Nat → Int32) {res : Int32 × Int32 × Int32} (h : f_X6_kindRead F m_typed m_spot m_kindNow m_text = some res) : CtI l D cI cS X yX6_kindRead cX6_kindRead 1 (some .boolean) 4 [.ref h_m] [(h_m, .inr (6, [.ref h_m_s, .ref h_m_past, .ref h_m_held, .int m_pasts, .int m_runs0, .ref h_m_text, .int m_typed, .ref h_m_now, .ref h_m_kept, .int m_spot, .int m_reason, .int m_cause, .int m_orders, .int m_kindNow, .int m_placeNow])), (h_m_s, .inl (cI, 116, .inl m_s)), (h_m_past, .inl (cI, 464, .inl m_past)), (h_m_held, .inl (cI, 116, .inl m_held)), (h_m_text, .inl (cI, 60, .inl m_text)), (h_m_now, .inl (cI, 10, .inl m_now)), (h_m_kept, .inl (cI, 16, .inl m_kept))] (PoI res.1 [(h_m, .inr (6, [.ref h_m_s, .ref h_m_past, .ref h_m_held, .int m_pasts, .int m_runs0, .ref h_m_text, .int m_typed, .ref h_m_now, .ref h_m_kept, .int res.2.1, .int m_reason, .int m_cause, .int m_orders, .int res.2.2, .int m_placeNow])), (h_m_s, .inl (cI, 116, .inl m_s)), (h_m_past, .inl (cI, 464, .inl m_past)), (h_m_held, .inl (cI, 116, .inl m_held)), (h_m_text, .inl (cI, 60, .inl m_text)), (h_m_now, .inl (cI, 10, .inl m_now)), (h_m_kept, .inl (cI, 16, .inl m_kept))]) := by
  refine CtI.of (by decide +kernel) rfl ?_
  intro p e s m below meth c A hc
  refine G_lv (lv' := [(0, .ref h_m)]) (lsame_cons rfl lsame_nil) ?_
  unfold f_X6_kindRead at h
  refine G_aload_n hc dX6_kindRead_0 rfl ?_
  refine G_bipush (v := 32) hc dX6_kindRead_1 (by decide) ?_
  obtain ⟨z1, hu2, h⟩ := ob h
  refine G_callVI (ws2 := [(h_m, .inr (6, [.ref h_m_s, .ref h_m_past, .ref h_m_held, .int m_pasts, .int m_runs0, .ref h_m_text, .int m_typed, .ref h_m_now, .ref h_m_kept, .int z1.2, .int m_reason, .int m_cause, .int m_orders, .int m_kindNow, .int m_placeNow])), (h_m_s, .inl (cI, 116, .inl m_s)), (h_m_past, .inl (cI, 464, .inl m_past)), (h_m_held, .inl (cI, 116, .inl m_held)), (h_m_text, .inl (cI, 60, .inl m_text)), (h_m_now, .inl (cI, 10, .inl m_now)), (h_m_kept, .inl (cI, 16, .inl m_kept))]) hc m_X6_132 (c_X6_passes l D cI cS X F h_m h_m_s h_m_past h_m_held h_m_text h_m_now h_m_kept m_pasts m_runs0 m_typed m_spot m_reason m_cause m_orders m_kindNow m_placeNow m_s m_past m_held m_text m_now m_kept (32 : Int32) hu2) 0 [0, 1, 2, 3, 4, 5, 6] rfl rfl (rmok_of (Nat.le_of_ble_eq_true rfl)) ⟨Nat.zero_le _, Nat.zero_le _⟩ rfl rfl rfl rfl rfl ⟨rfl, rfl, rfl⟩ dX6_kindRead_3 ?_
  refine G_if_eq (tgt := 20) hc dX6_kindRead_6 (by decide) (fun c9 => ?_) (fun c9 => ?_)
  · have h := ip h c9
    refine G_iconst (v := 0) hc dX6_kindRead_20 (by decide) ?_
    have h := Option.some.inj h
    subst h
    exact G_zreturn hc (by decide) ⟨rfl, rfl⟩ dX6_kindRead_21
  · have h := inn h c9
    refine G_aload_n hc dX6_kindRead_9 rfl ?_
    refine G_bipush (v := 48) hc dX6_kindRead_10 (by decide) ?_
    refine G_bipush (v := 57) hc dX6_kindRead_12 (by decide) ?_
    obtain ⟨z3, hu4, h⟩ := ob h
    refine G_callVI (ws2 := [(h_m, .inr (6, [.ref h_m_s, .ref h_m_past, .ref h_m_held, .int m_pasts, .int m_runs0, .ref h_m_text, .int m_typed, .ref h_m_now, .ref h_m_kept, .int z1.2, .int m_reason, .int m_cause, .int m_orders, .int m_kindNow, .int m_placeNow])), (h_m_s, .inl (cI, 116, .inl m_s)), (h_m_past, .inl (cI, 464, .inl m_past)), (h_m_held, .inl (cI, 116, .inl m_held)), (h_m_text, .inl (cI, 60, .inl m_text)), (h_m_now, .inl (cI, 10, .inl m_now)), (h_m_kept, .inl (cI, 16, .inl m_kept))]) hc m_X6_129 (c_X6_isAt l D cI cS X F h_m h_m_s h_m_past h_m_held h_m_text h_m_now h_m_kept m_pasts m_runs0 m_typed z1.2 m_reason m_cause m_orders m_kindNow m_placeNow m_s m_past m_held m_text m_now m_kept (48 : Int32) (57 : Int32) hu4) 0 [0, 1, 2, 3, 4, 5, 6] rfl rfl (rmok_of (Nat.le_of_ble_eq_true rfl)) ⟨Nat.zero_le _, Nat.zero_le _⟩ rfl rfl rfl rfl rfl ⟨rfl, rfl, rfl⟩ dX6_kindRead_14 ?_
    refine G_if_ne (tgt := 22) hc dX6_kindRead_17 (by decide) (fun c8 => ?_) (fun c8 => ?_)
    · have h := inn h c8
      refine G_aload_n hc dX6_kindRead_22 rfl ?_
      refine G_aload_n hc dX6_kindRead_23 rfl ?_
      refine G_get hc f_X6_19 0 rfl rfl dX6_kindRead_24 ?_
      refine G_aload_n hc dX6_kindRead_27 rfl ?_
      refine G_get hc f_X6_122 0 rfl rfl dX6_kindRead_28 ?_
      obtain ⟨v5, i_v5, e_v5, h⟩ := rb h
      refine G_iald hc 4 rfl i_v5 e_v5 dX6_kindRead_31 ?_
      refine G_bipush (v := 48) hc dX6_kindRead_32 (by decide) ?_
      refine G_isub hc dX6_kindRead_34 ?_
      obtain ⟨v6, e_v6, h⟩ := sb h
      refine G_top e_v6 ?_
      refine G_puti (ws' := [(h_m, .inr (6, [.ref h_m_s, .ref h_m_past, .ref h_m_held, .int m_pasts, .int m_runs0, .ref h_m_text, .int m_typed, .ref h_m_now, .ref h_m_kept, .int z1.2, .int m_reason, .int m_cause, .int m_orders, .int v6, .int m_placeNow])), (h_m_s, .inl (cI, 116, .inl m_s)), (h_m_past, .inl (cI, 464, .inl m_past)), (h_m_held, .inl (cI, 116, .inl m_held)), (h_m_text, .inl (cI, 60, .inl m_text)), (h_m_now, .inl (cI, 10, .inl m_now)), (h_m_kept, .inl (cI, 16, .inl m_kept))]) hc f_X6_135 p_X6_13 0 rfl rfl rfl dX6_kindRead_35 ?_
      refine G_aload_n hc dX6_kindRead_38 rfl ?_
      refine G_dup hc dX6_kindRead_39 rfl ?_
      refine G_get hc f_X6_122 0 rfl rfl dX6_kindRead_40 ?_
      refine G_iconst (v := 1) hc dX6_kindRead_43 (by decide) ?_
      refine G_iadd hc dX6_kindRead_44 ?_
      obtain ⟨v7, e_v7, h⟩ := sb h
      refine G_top e_v7 ?_
      refine G_puti (ws' := [(h_m, .inr (6, [.ref h_m_s, .ref h_m_past, .ref h_m_held, .int m_pasts, .int m_runs0, .ref h_m_text, .int m_typed, .ref h_m_now, .ref h_m_kept, .int v7, .int m_reason, .int m_cause, .int m_orders, .int v6, .int m_placeNow])), (h_m_s, .inl (cI, 116, .inl m_s)), (h_m_past, .inl (cI, 464, .inl m_past)), (h_m_held, .inl (cI, 116, .inl m_held)), (h_m_text, .inl (cI, 60, .inl m_text)), (h_m_now, .inl (cI, 10, .inl m_now)), (h_m_kept, .inl (cI, 16, .inl m_kept))]) hc f_X6_122 p_X6_9 0 rfl rfl rfl dX6_kindRead_45 ?_
      refine G_iconst (v := 1) hc dX6_kindRead_48 (by decide) ?_
      have h := Option.some.inj h
      subst h
      exact G_zreturn hc (by decide) ⟨rfl, rfl⟩ dX6_kindRead_49
    · have h := ip h c8
      refine G_iconst (v := 0) hc dX6_kindRead_20 (by decide) ?_
      have h := Option.some.inj h
      subst h
      exact G_zreturn hc (by decide) ⟨rfl, rfl⟩ dX6_kindRead_21
set_option maxHeartbeats 4000000 in
set_option maxRecDepth 100000 in
theorem c_X6_numberRead (l : Launch) (D : va_G) (cI cS : ClassId) (X : XP) (F : Nat) (h_m h_m_s h_m_past h_m_held h_m_text h_m_now h_m_kept : Nat) (m_pasts : Int32) (m_runs0 : Int32) (m_typed : Int32) (m_spot : Int32) (m_reason : Int32) (m_cause : Int32) (m_orders : Int32) (m_kindNow : Int32) (m_placeNow : Int32) (m_s : Nat → Int32) (m_past : Nat → Int32) (m_held : Nat → Int32) (m_text : Nat → Int32) (m_now : Nat → Int32) (m_kept : Nat → Int32) {res : Int32 × Int32 × Int32} (h : f_X6_numberRead F m_typed m_spot m_placeNow m_text = some res) : CtI l D cI cS X yX6_numberRead cX6_numberRead 2 (some .boolean) 4 [.ref h_m] [(h_m, .inr (6, [.ref h_m_s, .ref h_m_past, .ref h_m_held, .int m_pasts, .int m_runs0, .ref h_m_text, .int m_typed, .ref h_m_now, .ref h_m_kept, .int m_spot, .int m_reason, .int m_cause, .int m_orders, .int m_kindNow, .int m_placeNow])), (h_m_s, .inl (cI, 116, .inl m_s)), (h_m_past, .inl (cI, 464, .inl m_past)), (h_m_held, .inl (cI, 116, .inl m_held)), (h_m_text, .inl (cI, 60, .inl m_text)), (h_m_now, .inl (cI, 10, .inl m_now)), (h_m_kept, .inl (cI, 16, .inl m_kept))] (PoI res.1 [(h_m, .inr (6, [.ref h_m_s, .ref h_m_past, .ref h_m_held, .int m_pasts, .int m_runs0, .ref h_m_text, .int m_typed, .ref h_m_now, .ref h_m_kept, .int res.2.1, .int m_reason, .int m_cause, .int m_orders, .int m_kindNow, .int res.2.2])), (h_m_s, .inl (cI, 116, .inl m_s)), (h_m_past, .inl (cI, 464, .inl m_past)), (h_m_held, .inl (cI, 116, .inl m_held)), (h_m_text, .inl (cI, 60, .inl m_text)), (h_m_now, .inl (cI, 10, .inl m_now)), (h_m_kept, .inl (cI, 16, .inl m_kept))]) := by
  refine CtI.of (by decide +kernel) rfl ?_
  intro p e s m below meth c A hc
  refine G_lv (lv' := [(0, .ref h_m)]) (lsame_cons rfl lsame_nil) ?_
  unfold f_X6_numberRead at h
  refine G_aload_n hc dX6_numberRead_0 rfl ?_
  refine G_bipush (v := 32) hc dX6_numberRead_1 (by decide) ?_
  obtain ⟨z1, hu2, h⟩ := ob h
  refine G_callVI (ws2 := [(h_m, .inr (6, [.ref h_m_s, .ref h_m_past, .ref h_m_held, .int m_pasts, .int m_runs0, .ref h_m_text, .int m_typed, .ref h_m_now, .ref h_m_kept, .int z1.2, .int m_reason, .int m_cause, .int m_orders, .int m_kindNow, .int m_placeNow])), (h_m_s, .inl (cI, 116, .inl m_s)), (h_m_past, .inl (cI, 464, .inl m_past)), (h_m_held, .inl (cI, 116, .inl m_held)), (h_m_text, .inl (cI, 60, .inl m_text)), (h_m_now, .inl (cI, 10, .inl m_now)), (h_m_kept, .inl (cI, 16, .inl m_kept))]) hc m_X6_132 (c_X6_passes l D cI cS X F h_m h_m_s h_m_past h_m_held h_m_text h_m_now h_m_kept m_pasts m_runs0 m_typed m_spot m_reason m_cause m_orders m_kindNow m_placeNow m_s m_past m_held m_text m_now m_kept (32 : Int32) hu2) 0 [0, 1, 2, 3, 4, 5, 6] rfl rfl (rmok_of (Nat.le_of_ble_eq_true rfl)) ⟨Nat.zero_le _, Nat.zero_le _⟩ rfl rfl rfl rfl rfl ⟨rfl, rfl, rfl⟩ dX6_numberRead_3 ?_
  refine G_if_ne (tgt := 11) hc dX6_numberRead_6 (by decide) (fun c23 => ?_) (fun c23 => ?_)
  · have h := inn h c23
    refine G_aload_n hc dX6_numberRead_11 rfl ?_
    refine G_get hc f_X6_122 0 rfl rfl dX6_numberRead_12 ?_
    refine G_istore_n (lv' := [(0, .ref h_m), (1, .int z1.2)]) hc dX6_numberRead_15 rfl rfl ?_
    refine G_aload_n hc dX6_numberRead_16 rfl ?_
    refine G_iconst (v := 0) hc dX6_numberRead_17 (by decide) ?_
    refine G_puti (ws' := [(h_m, .inr (6, [.ref h_m_s, .ref h_m_past, .ref h_m_held, .int m_pasts, .int m_runs0, .ref h_m_text, .int m_typed, .ref h_m_now, .ref h_m_kept, .int z1.2, .int m_reason, .int m_cause, .int m_orders, .int m_kindNow, .int (0 : Int32)])), (h_m_s, .inl (cI, 116, .inl m_s)), (h_m_past, .inl (cI, 464, .inl m_past)), (h_m_held, .inl (cI, 116, .inl m_held)), (h_m_text, .inl (cI, 60, .inl m_text)), (h_m_now, .inl (cI, 10, .inl m_now)), (h_m_kept, .inl (cI, 16, .inl m_kept))]) hc f_X6_138 p_X6_14 0 rfl rfl rfl dX6_numberRead_18 ?_
    obtain ⟨e5, hl6, h⟩ := ob h
    have hK10 : G p l e (rmk 4) s m [.ref h_m].toArray below meth c D A 2 0 0 (QI below [.ref h_m].toArray s D A (PoI res.1 [(h_m, .inr (6, [.ref h_m_s, .ref h_m_past, .ref h_m_held, .int m_pasts, .int m_runs0, .ref h_m_text, .int m_typed, .ref h_m_now, .ref h_m_kept, .int res.2.1, .int m_reason, .int m_cause, .int m_orders, .int m_kindNow, .int res.2.2])), (h_m_s, .inl (cI, 116, .inl m_s)), (h_m_past, .inl (cI, 464, .inl m_past)), (h_m_held, .inl (cI, 116, .inl m_held)), (h_m_text, .inl (cI, 60, .inl m_text)), (h_m_now, .inl (cI, 10, .inl m_now)), (h_m_kept, .inl (cI, 16, .inl m_kept))])) [(h_m, .inr (6, [.ref h_m_s, .ref h_m_past, .ref h_m_held, .int m_pasts, .int m_runs0, .ref h_m_text, .int m_typed, .ref h_m_now, .ref h_m_kept, .int e5.2, .int m_reason, .int m_cause, .int m_orders, .int m_kindNow, .int e5.1])), (h_m_s, .inl (cI, 116, .inl m_s)), (h_m_past, .inl (cI, 464, .inl m_past)), (h_m_held, .inl (cI, 116, .inl m_held)), (h_m_text, .inl (cI, 60, .inl m_text)), (h_m_now, .inl (cI, 10, .inl m_now)), (h_m_kept, .inl (cI, 16, .inl m_kept))] [(0, .ref h_m), (1, .int z1.2)] 80 [] := by
      refine G_aload_n hc dX6_numberRead_80 rfl ?_
      refine G_get hc f_X6_122 0 rfl rfl dX6_numberRead_81 ?_
      refine G_iload_n hc dX6_numberRead_84 rfl ?_
      obtain ⟨t18, hr20, h⟩ := ob h
      have hj19 : G p l e (rmk 4) s m [.ref h_m].toArray below meth c D A 2 0 0 (QI below [.ref h_m].toArray s D A (PoI res.1 [(h_m, .inr (6, [.ref h_m_s, .ref h_m_past, .ref h_m_held, .int m_pasts, .int m_runs0, .ref h_m_text, .int m_typed, .ref h_m_now, .ref h_m_kept, .int res.2.1, .int m_reason, .int m_cause, .int m_orders, .int m_kindNow, .int res.2.2])), (h_m_s, .inl (cI, 116, .inl m_s)), (h_m_past, .inl (cI, 464, .inl m_past)), (h_m_held, .inl (cI, 116, .inl m_held)), (h_m_text, .inl (cI, 60, .inl m_text)), (h_m_now, .inl (cI, 10, .inl m_now)), (h_m_kept, .inl (cI, 16, .inl m_kept))])) [(h_m, .inr (6, [.ref h_m_s, .ref h_m_past, .ref h_m_held, .int m_pasts, .int m_runs0, .ref h_m_text, .int m_typed, .ref h_m_now, .ref h_m_kept, .int e5.2, .int m_reason, .int m_cause, .int m_orders, .int m_kindNow, .int e5.1])), (h_m_s, .inl (cI, 116, .inl m_s)), (h_m_past, .inl (cI, 464, .inl m_past)), (h_m_held, .inl (cI, 116, .inl m_held)), (h_m_text, .inl (cI, 60, .inl m_text)), (h_m_now, .inl (cI, 10, .inl m_now)), (h_m_kept, .inl (cI, 16, .inl m_kept))] [] 93 [.int t18] := by
        obtain ⟨hz22, h⟩ := zb h
        have h := Option.some.inj h
        subst h
        exact G_zreturn hc hz22 ⟨rfl, rfl⟩ dX6_numberRead_93
      clear h
      have h := hr20
      clear hr20
      refine G_icmp_le (tgt := 92) hc dX6_numberRead_85 (by decide) (fun c21 => ?_) (fun c21 => ?_)
      · have h := ip h c21
        refine G_iconst (v := 0) hc dX6_numberRead_92 (by decide) ?_
        have h := Option.some.inj h
        subst h
        refine G_lv (lv' := []) lsame_nil ?_
        exact hj19
      · have h := inn h c21
        refine G_iconst (v := 1) hc dX6_numberRead_88 (by decide) ?_
        refine G_goto (tgt := 93) hc dX6_numberRead_89 (by decide) ?_
        have h := Option.some.inj h
        subst h
        refine G_lv (lv' := []) lsame_nil ?_
        exact hj19
    clear h
    have hL7 : ∀ (n8 : Nat) (u3 : Int32) (u4 : Int32), f_X6_numberRead_L21 F m_typed m_text z1 n8 u3 u4 = some e5 → G p l e (rmk 4) s m [.ref h_m].toArray below meth c D A 2 0 0 (QI below [.ref h_m].toArray s D A (PoI res.1 [(h_m, .inr (6, [.ref h_m_s, .ref h_m_past, .ref h_m_held, .int m_pasts, .int m_runs0, .ref h_m_text, .int m_typed, .ref h_m_now, .ref h_m_kept, .int res.2.1, .int m_reason, .int m_cause, .int m_orders, .int m_kindNow, .int res.2.2])), (h_m_s, .inl (cI, 116, .inl m_s)), (h_m_past, .inl (cI, 464, .inl m_past)), (h_m_held, .inl (cI, 116, .inl m_held)), (h_m_text, .inl (cI, 60, .inl m_text)), (h_m_now, .inl (cI, 10, .inl m_now)), (h_m_kept, .inl (cI, 16, .inl m_kept))])) [(h_m, .inr (6, [.ref h_m_s, .ref h_m_past, .ref h_m_held, .int m_pasts, .int m_runs0, .ref h_m_text, .int m_typed, .ref h_m_now, .ref h_m_kept, .int u4, .int m_reason, .int m_cause, .int m_orders, .int m_kindNow, .int u3])), (h_m_s, .inl (cI, 116, .inl m_s)), (h_m_past, .inl (cI, 464, .inl m_past)), (h_m_held, .inl (cI, 116, .inl m_held)), (h_m_text, .inl (cI, 60, .inl m_text)), (h_m_now, .inl (cI, 10, .inl m_now)), (h_m_kept, .inl (cI, 16, .inl m_kept))] [(0, .ref h_m), (1, .int z1.2)] 21 [] := by
      intro n8
      induction n8 with
      | zero =>
        intro u3 u4 h
        exact nz h
      | succ n8 ih9 =>
        intro u3 u4 h
        rw [f_X6_numberRead_L21] at h
        refine G_aload_n hc dX6_numberRead_21 rfl ?_
        refine G_bipush (v := 48) hc dX6_numberRead_22 (by decide) ?_
        refine G_bipush (v := 57) hc dX6_numberRead_24 (by decide) ?_
        obtain ⟨z11, hu12, h⟩ := ob h
        refine G_callVI (ws2 := [(h_m, .inr (6, [.ref h_m_s, .ref h_m_past, .ref h_m_held, .int m_pasts, .int m_runs0, .ref h_m_text, .int m_typed, .ref h_m_now, .ref h_m_kept, .int u4, .int m_reason, .int m_cause, .int m_orders, .int m_kindNow, .int u3])), (h_m_s, .inl (cI, 116, .inl m_s)), (h_m_past, .inl (cI, 464, .inl m_past)), (h_m_held, .inl (cI, 116, .inl m_held)), (h_m_text, .inl (cI, 60, .inl m_text)), (h_m_now, .inl (cI, 10, .inl m_now)), (h_m_kept, .inl (cI, 16, .inl m_kept))]) hc m_X6_129 (c_X6_isAt l D cI cS X F h_m h_m_s h_m_past h_m_held h_m_text h_m_now h_m_kept m_pasts m_runs0 m_typed u4 m_reason m_cause m_orders m_kindNow u3 m_s m_past m_held m_text m_now m_kept (48 : Int32) (57 : Int32) hu12) 0 [0, 1, 2, 3, 4, 5, 6] rfl rfl (rmok_of (Nat.le_of_ble_eq_true rfl)) ⟨Nat.zero_le _, Nat.zero_le _⟩ rfl rfl rfl rfl rfl ⟨rfl, rfl, rfl⟩ dX6_numberRead_26 ?_
        refine G_if_eq (tgt := 80) hc dX6_numberRead_29 (by decide) (fun c17 => ?_) (fun c17 => ?_)
        · have h := ip h c17
          have h := Option.some.inj h
          subst h
          refine G_lv (lv' := [(0, .ref h_m), (1, .int z1.2)]) (lsame_cons rfl (lsame_cons rfl lsame_nil)) ?_
          exact hK10
        · have h := inn h c17
          refine G_aload_n hc dX6_numberRead_32 rfl ?_
          refine G_get hc f_X6_122 0 rfl rfl dX6_numberRead_33 ?_
          refine G_iload_n hc dX6_numberRead_36 rfl ?_
          refine G_isub hc dX6_numberRead_37 ?_
          refine G_bipush (v := 6) hc dX6_numberRead_38 (by decide) ?_
          refine G_icmp_ge (tgt := 80) hc dX6_numberRead_40 (by decide) (fun c16 => ?_) (fun c16 => ?_)
          · have h := ip h c16
            have h := Option.some.inj h
            subst h
            refine G_lv (lv' := [(0, .ref h_m), (1, .int z1.2)]) (lsame_cons rfl (lsame_cons rfl lsame_nil)) ?_
            exact hK10
          · have h := inn h c16
            refine G_aload_n hc dX6_numberRead_43 rfl ?_
            refine G_bipush (v := 10) hc dX6_numberRead_44 (by decide) ?_
            refine G_aload_n hc dX6_numberRead_46 rfl ?_
            refine G_get hc f_X6_138 0 rfl rfl dX6_numberRead_47 ?_
            refine G_imul hc dX6_numberRead_50 ?_
            refine G_aload_n hc dX6_numberRead_51 rfl ?_
            refine G_get hc f_X6_19 0 rfl rfl dX6_numberRead_52 ?_
            refine G_aload_n hc dX6_numberRead_55 rfl ?_
            refine G_get hc f_X6_122 0 rfl rfl dX6_numberRead_56 ?_
            obtain ⟨v13, i_v13, e_v13, h⟩ := rb h
            refine G_iald hc 4 rfl i_v13 e_v13 dX6_numberRead_59 ?_
            refine G_iadd hc dX6_numberRead_60 ?_
            refine G_bipush (v := 48) hc dX6_numberRead_61 (by decide) ?_
            refine G_isub hc dX6_numberRead_63 ?_
            obtain ⟨v14, e_v14, h⟩ := sb h
            refine G_top e_v14 ?_
            refine G_puti (ws' := [(h_m, .inr (6, [.ref h_m_s, .ref h_m_past, .ref h_m_held, .int m_pasts, .int m_runs0, .ref h_m_text, .int m_typed, .ref h_m_now, .ref h_m_kept, .int u4, .int m_reason, .int m_cause, .int m_orders, .int m_kindNow, .int v14])), (h_m_s, .inl (cI, 116, .inl m_s)), (h_m_past, .inl (cI, 464, .inl m_past)), (h_m_held, .inl (cI, 116, .inl m_held)), (h_m_text, .inl (cI, 60, .inl m_text)), (h_m_now, .inl (cI, 10, .inl m_now)), (h_m_kept, .inl (cI, 16, .inl m_kept))]) hc f_X6_138 p_X6_14 0 rfl rfl rfl dX6_numberRead_64 ?_
            refine G_aload_n hc dX6_numberRead_67 rfl ?_
            refine G_dup hc dX6_numberRead_68 rfl ?_
            refine G_get hc f_X6_122 0 rfl rfl dX6_numberRead_69 ?_
            refine G_iconst (v := 1) hc dX6_numberRead_72 (by decide) ?_
            refine G_iadd hc dX6_numberRead_73 ?_
            obtain ⟨v15, e_v15, h⟩ := sb h
            refine G_top e_v15 ?_
            refine G_puti (ws' := [(h_m, .inr (6, [.ref h_m_s, .ref h_m_past, .ref h_m_held, .int m_pasts, .int m_runs0, .ref h_m_text, .int m_typed, .ref h_m_now, .ref h_m_kept, .int v15, .int m_reason, .int m_cause, .int m_orders, .int m_kindNow, .int v14])), (h_m_s, .inl (cI, 116, .inl m_s)), (h_m_past, .inl (cI, 464, .inl m_past)), (h_m_held, .inl (cI, 116, .inl m_held)), (h_m_text, .inl (cI, 60, .inl m_text)), (h_m_now, .inl (cI, 10, .inl m_now)), (h_m_kept, .inl (cI, 16, .inl m_kept))]) hc f_X6_122 p_X6_9 0 rfl rfl rfl dX6_numberRead_74 ?_
            refine G_goto (tgt := 21) hc dX6_numberRead_77 (by decide) ?_
            refine G_lv (lv' := [(0, .ref h_m), (1, .int z1.2)]) (lsame_cons rfl (lsame_cons rfl lsame_nil)) ?_
            exact ih9 _ _ h
    refine G_lv (lv' := [(0, .ref h_m), (1, .int z1.2)]) (lsame_cons rfl (lsame_cons rfl lsame_nil)) ?_
    exact hL7 F _ _ hl6
  · have h := ip h c23
    refine G_iconst (v := 0) hc dX6_numberRead_9 (by decide) ?_
    have h := Option.some.inj h
    subst h
    exact G_zreturn hc (by decide) ⟨rfl, rfl⟩ dX6_numberRead_10
set_option maxHeartbeats 4000000 in
set_option maxRecDepth 100000 in
theorem c_X6_isForm (l : Launch) (D : va_G) (cI cS : ClassId) (X : XP) (F : Nat) (h_m h_m_s h_m_past h_m_held h_m_text h_m_now h_m_kept : Nat) (m_pasts : Int32) (m_runs0 : Int32) (m_typed : Int32) (m_spot : Int32) (m_reason : Int32) (m_cause : Int32) (m_orders : Int32) (m_kindNow : Int32) (m_placeNow : Int32) (m_s : Nat → Int32) (m_past : Nat → Int32) (m_held : Nat → Int32) (m_text : Nat → Int32) (m_now : Nat → Int32) (m_kept : Nat → Int32) (a1 : Int32) {res : Int32 × Int32 × Int32 × Int32} (h : f_X6_isForm F m_typed m_spot m_kindNow m_placeNow m_text a1 = some res) : CtI l D cI cS X yX6_isForm cX6_isForm 3 (some .boolean) 5 [.ref h_m, .int a1] [(h_m, .inr (6, [.ref h_m_s, .ref h_m_past, .ref h_m_held, .int m_pasts, .int m_runs0, .ref h_m_text, .int m_typed, .ref h_m_now, .ref h_m_kept, .int m_spot, .int m_reason, .int m_cause, .int m_orders, .int m_kindNow, .int m_placeNow])), (h_m_s, .inl (cI, 116, .inl m_s)), (h_m_past, .inl (cI, 464, .inl m_past)), (h_m_held, .inl (cI, 116, .inl m_held)), (h_m_text, .inl (cI, 60, .inl m_text)), (h_m_now, .inl (cI, 10, .inl m_now)), (h_m_kept, .inl (cI, 16, .inl m_kept))] (PoI res.1 [(h_m, .inr (6, [.ref h_m_s, .ref h_m_past, .ref h_m_held, .int m_pasts, .int m_runs0, .ref h_m_text, .int m_typed, .ref h_m_now, .ref h_m_kept, .int res.2.1, .int m_reason, .int m_cause, .int m_orders, .int res.2.2.1, .int res.2.2.2])), (h_m_s, .inl (cI, 116, .inl m_s)), (h_m_past, .inl (cI, 464, .inl m_past)), (h_m_held, .inl (cI, 116, .inl m_held)), (h_m_text, .inl (cI, 60, .inl m_text)), (h_m_now, .inl (cI, 10, .inl m_now)), (h_m_kept, .inl (cI, 16, .inl m_kept))]) := by
  refine CtI.of (by decide +kernel) rfl ?_
  intro p e s m below meth c A hc
  refine G_lv (lv' := [(0, .ref h_m), (1, .int a1)]) (lsame_cons rfl (lsame_cons rfl lsame_nil)) ?_
  unfold f_X6_isForm at h
  refine G_iload_n hc dX6_isForm_0 rfl ?_
  obtain ⟨t1, hr3, h⟩ := ob h
  have hj2 : G p l e (rmk 5) s m [.ref h_m, .int a1].toArray below meth c D A 3 0 0 (QI below [.ref h_m, .int a1].toArray s D A (PoI res.1 [(h_m, .inr (6, [.ref h_m_s, .ref h_m_past, .ref h_m_held, .int m_pasts, .int m_runs0, .ref h_m_text, .int m_typed, .ref h_m_now, .ref h_m_kept, .int res.2.1, .int m_reason, .int m_cause, .int m_orders, .int res.2.2.1, .int res.2.2.2])), (h_m_s, .inl (cI, 116, .inl m_s)), (h_m_past, .inl (cI, 464, .inl m_past)), (h_m_held, .inl (cI, 116, .inl m_held)), (h_m_text, .inl (cI, 60, .inl m_text)), (h_m_now, .inl (cI, 10, .inl m_now)), (h_m_kept, .inl (cI, 16, .inl m_kept))])) [(h_m, .inr (6, [.ref h_m_s, .ref h_m_past, .ref h_m_held, .int m_pasts, .int m_runs0, .ref h_m_text, .int m_typed, .ref h_m_now, .ref h_m_kept, .int t1.2.1, .int m_reason, .int m_cause, .int m_orders, .int t1.2.2.1, .int t1.2.2.2])), (h_m_s, .inl (cI, 116, .inl m_s)), (h_m_past, .inl (cI, 464, .inl m_past)), (h_m_held, .inl (cI, 116, .inl m_held)), (h_m_text, .inl (cI, 60, .inl m_text)), (h_m_now, .inl (cI, 10, .inl m_now)), (h_m_kept, .inl (cI, 16, .inl m_kept))] [(0, .ref h_m)] 62 [.int t1.1] := by
    refine G_istore_n (lv' := [(0, .ref h_m), (2, .int t1.1)]) hc dX6_isForm_62 rfl rfl ?_
    refine G_iload_n hc dX6_isForm_63 rfl ?_
    obtain ⟨t20, hr22, h⟩ := ob h
    have hj21 : G p l e (rmk 5) s m [.ref h_m, .int a1].toArray below meth c D A 3 0 0 (QI below [.ref h_m, .int a1].toArray s D A (PoI res.1 [(h_m, .inr (6, [.ref h_m_s, .ref h_m_past, .ref h_m_held, .int m_pasts, .int m_runs0, .ref h_m_text, .int m_typed, .ref h_m_now, .ref h_m_kept, .int res.2.1, .int m_reason, .int m_cause, .int m_orders, .int res.2.2.1, .int res.2.2.2])), (h_m_s, .inl (cI, 116, .inl m_s)), (h_m_past, .inl (cI, 464, .inl m_past)), (h_m_held, .inl (cI, 116, .inl m_held)), (h_m_text, .inl (cI, 60, .inl m_text)), (h_m_now, .inl (cI, 10, .inl m_now)), (h_m_kept, .inl (cI, 16, .inl m_kept))])) [(h_m, .inr (6, [.ref h_m_s, .ref h_m_past, .ref h_m_held, .int m_pasts, .int m_runs0, .ref h_m_text, .int m_typed, .ref h_m_now, .ref h_m_kept, .int t20.2, .int m_reason, .int m_cause, .int m_orders, .int t1.2.2.1, .int t1.2.2.2])), (h_m_s, .inl (cI, 116, .inl m_s)), (h_m_past, .inl (cI, 464, .inl m_past)), (h_m_held, .inl (cI, 116, .inl m_held)), (h_m_text, .inl (cI, 60, .inl m_text)), (h_m_now, .inl (cI, 10, .inl m_now)), (h_m_kept, .inl (cI, 16, .inl m_kept))] [] 81 [.int t20.1] := by
      obtain ⟨hz27, h⟩ := zb h
      have h := Option.some.inj h
      subst h
      exact G_zreturn hc hz27 ⟨rfl, rfl⟩ dX6_isForm_81
    clear h
    have h := hr22
    clear hr22
    refine G_if_eq (tgt := 80) hc dX6_isForm_64 (by decide) (fun c26 => ?_) (fun c26 => ?_)
    · have h := ip h c26
      refine G_iconst (v := 0) hc dX6_isForm_80 (by decide) ?_
      have h := Option.some.inj h
      subst h
      refine G_lv (lv' := []) lsame_nil ?_
      exact hj21
    · have h := inn h c26
      refine G_aload_n hc dX6_isForm_67 rfl ?_
      refine G_bipush (v := 59) hc dX6_isForm_68 (by decide) ?_
      obtain ⟨z23, hu24, h⟩ := ob h
      refine G_callVI (ws2 := [(h_m, .inr (6, [.ref h_m_s, .ref h_m_past, .ref h_m_held, .int m_pasts, .int m_runs0, .ref h_m_text, .int m_typed, .ref h_m_now, .ref h_m_kept, .int z23.2, .int m_reason, .int m_cause, .int m_orders, .int t1.2.2.1, .int t1.2.2.2])), (h_m_s, .inl (cI, 116, .inl m_s)), (h_m_past, .inl (cI, 464, .inl m_past)), (h_m_held, .inl (cI, 116, .inl m_held)), (h_m_text, .inl (cI, 60, .inl m_text)), (h_m_now, .inl (cI, 10, .inl m_now)), (h_m_kept, .inl (cI, 16, .inl m_kept))]) hc m_X6_132 (c_X6_passes l D cI cS X F h_m h_m_s h_m_past h_m_held h_m_text h_m_now h_m_kept m_pasts m_runs0 m_typed t1.2.1 m_reason m_cause m_orders t1.2.2.1 t1.2.2.2 m_s m_past m_held m_text m_now m_kept (59 : Int32) hu24) 0 [0, 1, 2, 3, 4, 5, 6] rfl rfl (rmok_of (Nat.le_of_ble_eq_true rfl)) ⟨Nat.zero_le _, Nat.zero_le _⟩ rfl rfl rfl rfl rfl ⟨rfl, rfl, rfl⟩ dX6_isForm_70 ?_
      refine G_if_eq (tgt := 80) hc dX6_isForm_73 (by decide) (fun c25 => ?_) (fun c25 => ?_)
      · have h := ip h c25
        refine G_iconst (v := 0) hc dX6_isForm_80 (by decide) ?_
        have h := Option.some.inj h
        subst h
        refine G_lv (lv' := []) lsame_nil ?_
        exact hj21
      · have h := inn h c25
        refine G_iconst (v := 1) hc dX6_isForm_76 (by decide) ?_
        refine G_goto (tgt := 81) hc dX6_isForm_77 (by decide) ?_
        have h := Option.some.inj h
        subst h
        refine G_lv (lv' := []) lsame_nil ?_
        exact hj21
  clear h
  have h := hr3
  clear hr3
  refine G_if_ne (tgt := 28) hc dX6_isForm_1 (by decide) (fun c19 => ?_) (fun c19 => ?_)
  · have h := inn h c19
    refine G_iload_n hc dX6_isForm_28 rfl ?_
    refine G_iconst (v := 2) hc dX6_isForm_29 (by decide) ?_
    refine G_icmp_lt (tgt := 57) hc dX6_isForm_30 (by decide) (fun c12 => ?_) (fun c12 => ?_)
    · have h := ip h c12
      refine G_iconst (v := 1) hc dX6_isForm_57 (by decide) ?_
      refine G_goto (tgt := 62) hc dX6_isForm_58 (by decide) ?_
      have h := Option.some.inj h
      subst h
      refine G_lv (lv' := [(0, .ref h_m)]) (lsame_cons rfl lsame_nil) ?_
      exact hj2
    · have h := inn h c12
      refine G_iload_n hc dX6_isForm_33 rfl ?_
      refine G_iconst (v := 4) hc dX6_isForm_34 (by decide) ?_
      refine G_icmp_eq (tgt := 57) hc dX6_isForm_35 (by decide) (fun c11 => ?_) (fun c11 => ?_)
      · have h := ip h c11
        refine G_iconst (v := 1) hc dX6_isForm_57 (by decide) ?_
        refine G_goto (tgt := 62) hc dX6_isForm_58 (by decide) ?_
        have h := Option.some.inj h
        subst h
        refine G_lv (lv' := [(0, .ref h_m)]) (lsame_cons rfl lsame_nil) ?_
        exact hj2
      · have h := inn h c11
        refine G_aload_n hc dX6_isForm_38 rfl ?_
        obtain ⟨z4, hu5, h⟩ := ob h
        refine G_callVI (ws2 := [(h_m, .inr (6, [.ref h_m_s, .ref h_m_past, .ref h_m_held, .int m_pasts, .int m_runs0, .ref h_m_text, .int m_typed, .ref h_m_now, .ref h_m_kept, .int z4.2.1, .int m_reason, .int m_cause, .int m_orders, .int z4.2.2, .int m_placeNow])), (h_m_s, .inl (cI, 116, .inl m_s)), (h_m_past, .inl (cI, 464, .inl m_past)), (h_m_held, .inl (cI, 116, .inl m_held)), (h_m_text, .inl (cI, 60, .inl m_text)), (h_m_now, .inl (cI, 10, .inl m_now)), (h_m_kept, .inl (cI, 16, .inl m_kept))]) hc m_X6_144 (c_X6_kindRead l D cI cS X F h_m h_m_s h_m_past h_m_held h_m_text h_m_now h_m_kept m_pasts m_runs0 m_typed m_spot m_reason m_cause m_orders m_kindNow m_placeNow m_s m_past m_held m_text m_now m_kept hu5) 0 [0, 1, 2, 3, 4, 5, 6] rfl rfl (rmok_of (Nat.le_of_ble_eq_true rfl)) ⟨Nat.zero_le _, Nat.zero_le _⟩ rfl rfl rfl rfl rfl ⟨rfl, rfl, rfl⟩ dX6_isForm_39 ?_
        refine G_if_eq (tgt := 61) hc dX6_isForm_42 (by decide) (fun c10 => ?_) (fun c10 => ?_)
        · have h := ip h c10
          refine G_iconst (v := 0) hc dX6_isForm_61 (by decide) ?_
          have h := Option.some.inj h
          subst h
          refine G_lv (lv' := [(0, .ref h_m)]) (lsame_cons rfl lsame_nil) ?_
          exact hj2
        · have h := inn h c10
          refine G_iload_n hc dX6_isForm_45 rfl ?_
          refine G_iconst (v := 2) hc dX6_isForm_46 (by decide) ?_
          refine G_icmp_eq (tgt := 57) hc dX6_isForm_47 (by decide) (fun c9 => ?_) (fun c9 => ?_)
          · have h := ip h c9
            refine G_iconst (v := 1) hc dX6_isForm_57 (by decide) ?_
            refine G_goto (tgt := 62) hc dX6_isForm_58 (by decide) ?_
            have h := Option.some.inj h
            subst h
            refine G_lv (lv' := [(0, .ref h_m)]) (lsame_cons rfl lsame_nil) ?_
            exact hj2
          · have h := inn h c9
            refine G_aload_n hc dX6_isForm_50 rfl ?_
            obtain ⟨z6, hu7, h⟩ := ob h
            refine G_callVI (ws2 := [(h_m, .inr (6, [.ref h_m_s, .ref h_m_past, .ref h_m_held, .int m_pasts, .int m_runs0, .ref h_m_text, .int m_typed, .ref h_m_now, .ref h_m_kept, .int z6.2.1, .int m_reason, .int m_cause, .int m_orders, .int z4.2.2, .int z6.2.2])), (h_m_s, .inl (cI, 116, .inl m_s)), (h_m_past, .inl (cI, 464, .inl m_past)), (h_m_held, .inl (cI, 116, .inl m_held)), (h_m_text, .inl (cI, 60, .inl m_text)), (h_m_now, .inl (cI, 10, .inl m_now)), (h_m_kept, .inl (cI, 16, .inl m_kept))]) hc m_X6_147 (c_X6_numberRead l D cI cS X F h_m h_m_s h_m_past h_m_held h_m_text h_m_now h_m_kept m_pasts m_runs0 m_typed z4.2.1 m_reason m_cause m_orders z4.2.2 m_placeNow m_s m_past m_held m_text m_now m_kept hu7) 0 [0, 1, 2, 3, 4, 5, 6] rfl rfl (rmok_of (Nat.le_of_ble_eq_true rfl)) ⟨Nat.zero_le _, Nat.zero_le _⟩ rfl rfl rfl rfl rfl ⟨rfl, rfl, rfl⟩ dX6_isForm_51 ?_
            refine G_if_eq (tgt := 61) hc dX6_isForm_54 (by decide) (fun c8 => ?_) (fun c8 => ?_)
            · have h := ip h c8
              refine G_iconst (v := 0) hc dX6_isForm_61 (by decide) ?_
              have h := Option.some.inj h
              subst h
              refine G_lv (lv' := [(0, .ref h_m)]) (lsame_cons rfl lsame_nil) ?_
              exact hj2
            · have h := inn h c8
              refine G_iconst (v := 1) hc dX6_isForm_57 (by decide) ?_
              refine G_goto (tgt := 62) hc dX6_isForm_58 (by decide) ?_
              have h := Option.some.inj h
              subst h
              refine G_lv (lv' := [(0, .ref h_m)]) (lsame_cons rfl lsame_nil) ?_
              exact hj2
  · have h := ip h c19
    refine G_aload_n hc dX6_isForm_4 rfl ?_
    refine G_bipush (v := 32) hc dX6_isForm_5 (by decide) ?_
    obtain ⟨z13, hu14, h⟩ := ob h
    refine G_callVI (ws2 := [(h_m, .inr (6, [.ref h_m_s, .ref h_m_past, .ref h_m_held, .int m_pasts, .int m_runs0, .ref h_m_text, .int m_typed, .ref h_m_now, .ref h_m_kept, .int z13.2, .int m_reason, .int m_cause, .int m_orders, .int m_kindNow, .int m_placeNow])), (h_m_s, .inl (cI, 116, .inl m_s)), (h_m_past, .inl (cI, 464, .inl m_past)), (h_m_held, .inl (cI, 116, .inl m_held)), (h_m_text, .inl (cI, 60, .inl m_text)), (h_m_now, .inl (cI, 10, .inl m_now)), (h_m_kept, .inl (cI, 16, .inl m_kept))]) hc m_X6_132 (c_X6_passes l D cI cS X F h_m h_m_s h_m_past h_m_held h_m_text h_m_now h_m_kept m_pasts m_runs0 m_typed m_spot m_reason m_cause m_orders m_kindNow m_placeNow m_s m_past m_held m_text m_now m_kept (32 : Int32) hu14) 0 [0, 1, 2, 3, 4, 5, 6] rfl rfl (rmok_of (Nat.le_of_ble_eq_true rfl)) ⟨Nat.zero_le _, Nat.zero_le _⟩ rfl rfl rfl rfl rfl ⟨rfl, rfl, rfl⟩ dX6_isForm_7 ?_
    refine G_if_eq (tgt := 24) hc dX6_isForm_10 (by decide) (fun c18 => ?_) (fun c18 => ?_)
    · have h := ip h c18
      refine G_iconst (v := 0) hc dX6_isForm_24 (by decide) ?_
      refine G_goto (tgt := 62) hc dX6_isForm_25 (by decide) ?_
      have h := Option.some.inj h
      subst h
      refine G_lv (lv' := [(0, .ref h_m)]) (lsame_cons rfl lsame_nil) ?_
      exact hj2
    · have h := inn h c18
      refine G_aload_n hc dX6_isForm_13 rfl ?_
      obtain ⟨z15, hu16, h⟩ := ob h
      refine G_callVI (ws2 := [(h_m, .inr (6, [.ref h_m_s, .ref h_m_past, .ref h_m_held, .int m_pasts, .int m_runs0, .ref h_m_text, .int m_typed, .ref h_m_now, .ref h_m_kept, .int z15.2, .int m_reason, .int m_cause, .int m_orders, .int m_kindNow, .int m_placeNow])), (h_m_s, .inl (cI, 116, .inl m_s)), (h_m_past, .inl (cI, 464, .inl m_past)), (h_m_held, .inl (cI, 116, .inl m_held)), (h_m_text, .inl (cI, 60, .inl m_text)), (h_m_now, .inl (cI, 10, .inl m_now)), (h_m_kept, .inl (cI, 16, .inl m_kept))]) hc m_X6_141 (c_X6_lettersRead l D cI cS X F h_m h_m_s h_m_past h_m_held h_m_text h_m_now h_m_kept m_pasts m_runs0 m_typed z13.2 m_reason m_cause m_orders m_kindNow m_placeNow m_s m_past m_held m_text m_now m_kept hu16) 0 [0, 1, 2, 3, 4, 5, 6] rfl rfl (rmok_of (Nat.le_of_ble_eq_true rfl)) ⟨Nat.zero_le _, Nat.zero_le _⟩ rfl rfl rfl rfl rfl ⟨rfl, rfl, rfl⟩ dX6_isForm_14 ?_
      refine G_if_eq (tgt := 24) hc dX6_isForm_17 (by decide) (fun c17 => ?_) (fun c17 => ?_)
      · have h := ip h c17
        refine G_iconst (v := 0) hc dX6_isForm_24 (by decide) ?_
        refine G_goto (tgt := 62) hc dX6_isForm_25 (by decide) ?_
        have h := Option.some.inj h
        subst h
        refine G_lv (lv' := [(0, .ref h_m)]) (lsame_cons rfl lsame_nil) ?_
        exact hj2
      · have h := inn h c17
        refine G_iconst (v := 1) hc dX6_isForm_20 (by decide) ?_
        refine G_goto (tgt := 62) hc dX6_isForm_21 (by decide) ?_
        have h := Option.some.inj h
        subst h
        refine G_lv (lv' := [(0, .ref h_m)]) (lsame_cons rfl lsame_nil) ?_
        exact hj2
set_option maxHeartbeats 4000000 in
set_option maxRecDepth 100000 in
theorem c_X6_lays (l : Launch) (D : va_G) (cI cS : ClassId) (X : XP) (F : Nat) (h_m h_m_s h_m_past h_m_held h_m_text h_m_now h_m_kept : Nat) (m_pasts : Int32) (m_runs0 : Int32) (m_typed : Int32) (m_spot : Int32) (m_reason : Int32) (m_cause : Int32) (m_orders : Int32) (m_kindNow : Int32) (m_placeNow : Int32) (m_s : Nat → Int32) (m_past : Nat → Int32) (m_held : Nat → Int32) (m_text : Nat → Int32) (m_now : Nat → Int32) (m_kept : Nat → Int32) (a1 : Int32) (a2 : Int32) {res : (Nat → Int32)} (h : f_X6_lays F m_s m_text a1 a2 = some res) : CtV l D cI cS X yX6_lays cX6_lays 4 1 [.ref h_m, .int a1, .int a2] [(h_m, .inr (6, [.ref h_m_s, .ref h_m_past, .ref h_m_held, .int m_pasts, .int m_runs0, .ref h_m_text, .int m_typed, .ref h_m_now, .ref h_m_kept, .int m_spot, .int m_reason, .int m_cause, .int m_orders, .int m_kindNow, .int m_placeNow])), (h_m_s, .inl (cI, 116, .inl m_s)), (h_m_past, .inl (cI, 464, .inl m_past)), (h_m_held, .inl (cI, 116, .inl m_held)), (h_m_text, .inl (cI, 60, .inl m_text)), (h_m_now, .inl (cI, 10, .inl m_now)), (h_m_kept, .inl (cI, 16, .inl m_kept))] (PoV [(h_m, .inr (6, [.ref h_m_s, .ref h_m_past, .ref h_m_held, .int m_pasts, .int m_runs0, .ref h_m_text, .int m_typed, .ref h_m_now, .ref h_m_kept, .int m_spot, .int m_reason, .int m_cause, .int m_orders, .int m_kindNow, .int m_placeNow])), (h_m_s, .inl (cI, 116, .inl res)), (h_m_past, .inl (cI, 464, .inl m_past)), (h_m_held, .inl (cI, 116, .inl m_held)), (h_m_text, .inl (cI, 60, .inl m_text)), (h_m_now, .inl (cI, 10, .inl m_now)), (h_m_kept, .inl (cI, 16, .inl m_kept))]) := by
  refine CtV.of (by decide +kernel) rfl ?_
  intro p e s m below meth c A hc
  refine G_lv (lv' := [(0, .ref h_m), (1, .int a1), (2, .int a2)]) (lsame_cons rfl (lsame_cons rfl (lsame_cons rfl lsame_nil))) ?_
  unfold f_X6_lays at h
  refine G_aload_n hc dX6_lays_0 rfl ?_
  refine G_get hc f_X6_7 0 rfl rfl dX6_lays_1 ?_
  refine G_iconst (v := 0) hc dX6_lays_4 (by decide) ?_
  refine G_iload_n hc dX6_lays_5 rfl ?_
  refine G_iload_n hc dX6_lays_6 rfl ?_
  refine G_isub hc dX6_lays_7 ?_
  obtain ⟨v1, i_v1, e_v1, h⟩ := wb h
  refine G_iast (ws' := [(h_m, .inr (6, [.ref h_m_s, .ref h_m_past, .ref h_m_held, .int m_pasts, .int m_runs0, .ref h_m_text, .int m_typed, .ref h_m_now, .ref h_m_kept, .int m_spot, .int m_reason, .int m_cause, .int m_orders, .int m_kindNow, .int m_placeNow])), (h_m_s, .inl (cI, 116, .inl v1)), (h_m_past, .inl (cI, 464, .inl m_past)), (h_m_held, .inl (cI, 116, .inl m_held)), (h_m_text, .inl (cI, 60, .inl m_text)), (h_m_now, .inl (cI, 10, .inl m_now)), (h_m_kept, .inl (cI, 16, .inl m_kept))]) hc 1 rfl i_v1 e_v1 rfl dX6_lays_8 ?_
  refine G_iload_n hc dX6_lays_9 rfl ?_
  refine G_istore_n (lv' := [(0, .ref h_m), (1, .int a1), (2, .int a2), (3, .int a1)]) hc dX6_lays_10 rfl rfl ?_
  obtain ⟨e4, hl5, h⟩ := ob h
  have hK9 : G p l e (rmk 1) s m [.ref h_m, .int a1, .int a2].toArray below meth c D A 4 0 0 (QV below [.ref h_m, .int a1, .int a2].toArray s D A (PoV [(h_m, .inr (6, [.ref h_m_s, .ref h_m_past, .ref h_m_held, .int m_pasts, .int m_runs0, .ref h_m_text, .int m_typed, .ref h_m_now, .ref h_m_kept, .int m_spot, .int m_reason, .int m_cause, .int m_orders, .int m_kindNow, .int m_placeNow])), (h_m_s, .inl (cI, 116, .inl res)), (h_m_past, .inl (cI, 464, .inl m_past)), (h_m_held, .inl (cI, 116, .inl m_held)), (h_m_text, .inl (cI, 60, .inl m_text)), (h_m_now, .inl (cI, 10, .inl m_now)), (h_m_kept, .inl (cI, 16, .inl m_kept))])) [(h_m, .inr (6, [.ref h_m_s, .ref h_m_past, .ref h_m_held, .int m_pasts, .int m_runs0, .ref h_m_text, .int m_typed, .ref h_m_now, .ref h_m_kept, .int m_spot, .int m_reason, .int m_cause, .int m_orders, .int m_kindNow, .int m_placeNow])), (h_m_s, .inl (cI, 116, .inl e4)), (h_m_past, .inl (cI, 464, .inl m_past)), (h_m_held, .inl (cI, 116, .inl m_held)), (h_m_text, .inl (cI, 60, .inl m_text)), (h_m_now, .inl (cI, 10, .inl m_now)), (h_m_kept, .inl (cI, 16, .inl m_kept))] [] 41 [] := by
    have h := Option.some.inj h
    subst h
    exact G_return hc rfl dX6_lays_41
  clear h
  have hL6 : ∀ (n7 : Nat) (u2 : Int32) (u3 : Nat → Int32), f_X6_lays_L11 F m_text a1 a2 n7 u2 u3 = some e4 → G p l e (rmk 1) s m [.ref h_m, .int a1, .int a2].toArray below meth c D A 4 0 0 (QV below [.ref h_m, .int a1, .int a2].toArray s D A (PoV [(h_m, .inr (6, [.ref h_m_s, .ref h_m_past, .ref h_m_held, .int m_pasts, .int m_runs0, .ref h_m_text, .int m_typed, .ref h_m_now, .ref h_m_kept, .int m_spot, .int m_reason, .int m_cause, .int m_orders, .int m_kindNow, .int m_placeNow])), (h_m_s, .inl (cI, 116, .inl res)), (h_m_past, .inl (cI, 464, .inl m_past)), (h_m_held, .inl (cI, 116, .inl m_held)), (h_m_text, .inl (cI, 60, .inl m_text)), (h_m_now, .inl (cI, 10, .inl m_now)), (h_m_kept, .inl (cI, 16, .inl m_kept))])) [(h_m, .inr (6, [.ref h_m_s, .ref h_m_past, .ref h_m_held, .int m_pasts, .int m_runs0, .ref h_m_text, .int m_typed, .ref h_m_now, .ref h_m_kept, .int m_spot, .int m_reason, .int m_cause, .int m_orders, .int m_kindNow, .int m_placeNow])), (h_m_s, .inl (cI, 116, .inl u3)), (h_m_past, .inl (cI, 464, .inl m_past)), (h_m_held, .inl (cI, 116, .inl m_held)), (h_m_text, .inl (cI, 60, .inl m_text)), (h_m_now, .inl (cI, 10, .inl m_now)), (h_m_kept, .inl (cI, 16, .inl m_kept))] [(0, .ref h_m), (1, .int a1), (2, .int a2), (3, .int u2)] 11 [] := by
    intro n7
    induction n7 with
    | zero =>
      intro u2 u3 h
      exact nz h
    | succ n7 ih8 =>
      intro u2 u3 h
      rw [f_X6_lays_L11] at h
      refine G_iload_n hc dX6_lays_11 rfl ?_
      refine G_iload_n hc dX6_lays_12 rfl ?_
      refine G_icmp_ge (tgt := 41) hc dX6_lays_13 (by decide) (fun c13 => ?_) (fun c13 => ?_)
      · have h := ip h c13
        have h := Option.some.inj h
        subst h
        refine G_lv (lv' := []) lsame_nil ?_
        exact hK9
      · have h := inn h c13
        refine G_aload_n hc dX6_lays_16 rfl ?_
        refine G_get hc f_X6_7 0 rfl rfl dX6_lays_17 ?_
        refine G_iconst (v := 1) hc dX6_lays_20 (by decide) ?_
        refine G_iload_n hc dX6_lays_21 rfl ?_
        refine G_iadd hc dX6_lays_22 ?_
        refine G_iload_n hc dX6_lays_23 rfl ?_
        refine G_isub hc dX6_lays_24 ?_
        refine G_aload_n hc dX6_lays_25 rfl ?_
        refine G_get hc f_X6_19 0 rfl rfl dX6_lays_26 ?_
        refine G_iload_n hc dX6_lays_29 rfl ?_
        obtain ⟨v10, i_v10, e_v10, h⟩ := rb h
        refine G_iald hc 4 rfl i_v10 e_v10 dX6_lays_30 ?_
        refine G_bipush (v := 97) hc dX6_lays_31 (by decide) ?_
        refine G_isub hc dX6_lays_33 ?_
        obtain ⟨v11, i_v11, e_v11, h⟩ := wb h
        refine G_iast (ws' := [(h_m, .inr (6, [.ref h_m_s, .ref h_m_past, .ref h_m_held, .int m_pasts, .int m_runs0, .ref h_m_text, .int m_typed, .ref h_m_now, .ref h_m_kept, .int m_spot, .int m_reason, .int m_cause, .int m_orders, .int m_kindNow, .int m_placeNow])), (h_m_s, .inl (cI, 116, .inl v11)), (h_m_past, .inl (cI, 464, .inl m_past)), (h_m_held, .inl (cI, 116, .inl m_held)), (h_m_text, .inl (cI, 60, .inl m_text)), (h_m_now, .inl (cI, 10, .inl m_now)), (h_m_kept, .inl (cI, 16, .inl m_kept))]) hc 1 rfl i_v11 e_v11 rfl dX6_lays_34 ?_
        obtain ⟨v12, e_v12, h⟩ := sb h
        refine G_iinc (v := v12) (lv' := [(0, .ref h_m), (1, .int a1), (2, .int a2), (3, .int v12)]) hc dX6_lays_35 rfl (e_v12.trans rfl) rfl rfl ?_
        refine G_goto (tgt := 11) hc dX6_lays_38 (by decide) ?_
        refine G_lv (lv' := [(0, .ref h_m), (1, .int a1), (2, .int a2), (3, .int v12)]) (lsame_cons rfl (lsame_cons rfl (lsame_cons rfl (lsame_cons rfl lsame_nil)))) ?_
        exact ih8 _ _ h
  refine G_lv (lv' := [(0, .ref h_m), (1, .int a1), (2, .int a2), (3, .int a1)]) (lsame_cons rfl (lsame_cons rfl (lsame_cons rfl (lsame_cons rfl lsame_nil)))) ?_
  exact hL6 F _ _ hl5
set_option maxHeartbeats 4000000 in
set_option maxRecDepth 100000 in
theorem c_X6_does (l : Launch) (D : va_G) (cI cS : ClassId) (X : XP) (F : Nat) (h_m h_m_s h_m_past h_m_held h_m_text h_m_now h_m_kept : Nat) (m_pasts : Int32) (m_runs0 : Int32) (m_typed : Int32) (m_spot : Int32) (m_reason : Int32) (m_cause : Int32) (m_orders : Int32) (m_kindNow : Int32) (m_placeNow : Int32) (m_s : Nat → Int32) (m_past : Nat → Int32) (m_held : Nat → Int32) (m_text : Nat → Int32) (m_now : Nat → Int32) (m_kept : Nat → Int32) (a1 : Int32) (a2 : Int32) {res : Int32 × Int32 × (Nat → Int32) × (Nat → Int32) × (Nat → Int32) × (Nat → Int32)} (h : f_X6_does F m_pasts m_runs0 m_spot m_kindNow m_placeNow m_s m_past m_text m_now m_kept a1 a2 = some res) : CtI l D cI cS X yX6_does cX6_does 4 (some .int) 7 [.ref h_m, .int a1, .int a2] [(h_m, .inr (6, [.ref h_m_s, .ref h_m_past, .ref h_m_held, .int m_pasts, .int m_runs0, .ref h_m_text, .int m_typed, .ref h_m_now, .ref h_m_kept, .int m_spot, .int m_reason, .int m_cause, .int m_orders, .int m_kindNow, .int m_placeNow])), (h_m_s, .inl (cI, 116, .inl m_s)), (h_m_past, .inl (cI, 464, .inl m_past)), (h_m_held, .inl (cI, 116, .inl m_held)), (h_m_text, .inl (cI, 60, .inl m_text)), (h_m_now, .inl (cI, 10, .inl m_now)), (h_m_kept, .inl (cI, 16, .inl m_kept))] (PoI res.1 [(h_m, .inr (6, [.ref h_m_s, .ref h_m_past, .ref h_m_held, .int res.2.1, .int m_runs0, .ref h_m_text, .int m_typed, .ref h_m_now, .ref h_m_kept, .int m_spot, .int m_reason, .int m_cause, .int m_orders, .int m_kindNow, .int m_placeNow])), (h_m_s, .inl (cI, 116, .inl res.2.2.1)), (h_m_past, .inl (cI, 464, .inl res.2.2.2.1)), (h_m_held, .inl (cI, 116, .inl m_held)), (h_m_text, .inl (cI, 60, .inl m_text)), (h_m_now, .inl (cI, 10, .inl res.2.2.2.2.1)), (h_m_kept, .inl (cI, 16, .inl res.2.2.2.2.2))]) := by
  refine CtI.of (by decide +kernel) rfl ?_
  intro p e s m below meth c A hc
  refine G_lv (lv' := [(0, .ref h_m), (1, .int a1), (2, .int a2)]) (lsame_cons rfl (lsame_cons rfl (lsame_cons rfl lsame_nil))) ?_
  unfold f_X6_does at h
  refine G_aload_n hc dX6_does_0 rfl ?_
  refine G_get hc f_X6_7 0 rfl rfl dX6_does_1 ?_
  refine G_iconst (v := 0) hc dX6_does_4 (by decide) ?_
  obtain ⟨v1, i_v1, e_v1, h⟩ := rb h
  refine G_iald hc 1 rfl i_v1 e_v1 dX6_does_5 ?_
  obtain ⟨t2, hr4, h⟩ := ob h
  have hj3 : G p l e (rmk 7) s m [.ref h_m, .int a1, .int a2].toArray below meth c D A 4 0 0 (QI below [.ref h_m, .int a1, .int a2].toArray s D A (PoI res.1 [(h_m, .inr (6, [.ref h_m_s, .ref h_m_past, .ref h_m_held, .int res.2.1, .int m_runs0, .ref h_m_text, .int m_typed, .ref h_m_now, .ref h_m_kept, .int m_spot, .int m_reason, .int m_cause, .int m_orders, .int m_kindNow, .int m_placeNow])), (h_m_s, .inl (cI, 116, .inl res.2.2.1)), (h_m_past, .inl (cI, 464, .inl res.2.2.2.1)), (h_m_held, .inl (cI, 116, .inl m_held)), (h_m_text, .inl (cI, 60, .inl m_text)), (h_m_now, .inl (cI, 10, .inl res.2.2.2.2.1)), (h_m_kept, .inl (cI, 16, .inl res.2.2.2.2.2))])) [(h_m, .inr (6, [.ref h_m_s, .ref h_m_past, .ref h_m_held, .int m_pasts, .int m_runs0, .ref h_m_text, .int m_typed, .ref h_m_now, .ref h_m_kept, .int m_spot, .int m_reason, .int m_cause, .int m_orders, .int m_kindNow, .int m_placeNow])), (h_m_s, .inl (cI, 116, .inl m_s)), (h_m_past, .inl (cI, 464, .inl m_past)), (h_m_held, .inl (cI, 116, .inl m_held)), (h_m_text, .inl (cI, 60, .inl m_text)), (h_m_now, .inl (cI, 10, .inl m_now)), (h_m_kept, .inl (cI, 16, .inl m_kept))] [(0, .ref h_m), (1, .int a1), (2, .int a2)] 14 [.int t2] := by
    refine G_istore_n (lv' := [(0, .ref h_m), (1, .int a1), (2, .int a2), (3, .int t2)]) hc dX6_does_14 rfl rfl ?_
    refine G_iload_n hc dX6_does_15 rfl ?_
    by_cases c6 : a1 = (0 : Int32)
    · have h := ip h c6
      refine G_tableIn (tgt := 48) hc dX6_does_16 (0 : Int32) c6 (by decide) (by decide) rfl (by decide) ?_
      refine G_aload_n hc dX6_does_48 rfl ?_
      refine G_iload_n hc dX6_does_49 rfl ?_
      refine G_iconst (v := 4) hc dX6_does_50 (by decide) ?_
      refine G_iadd hc dX6_does_51 ?_
      refine G_aload_n hc dX6_does_52 rfl ?_
      refine G_get hc f_X6_122 0 rfl rfl dX6_does_53 ?_
      refine G_iconst (v := 1) hc dX6_does_56 (by decide) ?_
      refine G_isub hc dX6_does_57 ?_
      obtain ⟨z7, hu8, h⟩ := ob h
      refine G_callVV (ws2 := [(h_m, .inr (6, [.ref h_m_s, .ref h_m_past, .ref h_m_held, .int m_pasts, .int m_runs0, .ref h_m_text, .int m_typed, .ref h_m_now, .ref h_m_kept, .int m_spot, .int m_reason, .int m_cause, .int m_orders, .int m_kindNow, .int m_placeNow])), (h_m_s, .inl (cI, 116, .inl z7)), (h_m_past, .inl (cI, 464, .inl m_past)), (h_m_held, .inl (cI, 116, .inl m_held)), (h_m_text, .inl (cI, 60, .inl m_text)), (h_m_now, .inl (cI, 10, .inl m_now)), (h_m_kept, .inl (cI, 16, .inl m_kept))]) hc m_X6_150 (c_X6_lays l D cI cS X F h_m h_m_s h_m_past h_m_held h_m_text h_m_now h_m_kept m_pasts m_runs0 m_typed m_spot m_reason m_cause m_orders m_kindNow m_placeNow m_s m_past m_held m_text m_now m_kept (a2 + (4 : Int32)) (m_spot - (1 : Int32)) hu8) 0 [0, 1, 2, 3, 4, 5, 6] rfl rfl (rmok_of (Nat.le_of_ble_eq_true rfl)) ⟨Nat.zero_le _, Nat.zero_le _⟩ rfl rfl rfl rfl rfl ⟨rfl, rfl, rfl⟩ dX6_does_58 ?_
      refine G_iconst (v := 0) hc dX6_does_61 (by decide) ?_
      have h := Option.some.inj h
      subst h
      exact G_ireturn hc ⟨rfl, rfl⟩ dX6_does_62
    · have h := inn h c6
      by_cases c9 : a1 = (1 : Int32)
      · have h := ip h c9
        refine G_tableIn (tgt := 63) hc dX6_does_16 (1 : Int32) c9 (by decide) (by decide) rfl (by decide) ?_
        refine G_aload_n hc dX6_does_63 rfl ?_
        obtain ⟨z10, hu11, h⟩ := ob h
        refine G_callVI (ws2 := [(h_m, .inr (6, [.ref h_m_s, .ref h_m_past, .ref h_m_held, .int z10.2.1, .int m_runs0, .ref h_m_text, .int m_typed, .ref h_m_now, .ref h_m_kept, .int m_spot, .int m_reason, .int m_cause, .int m_orders, .int m_kindNow, .int m_placeNow])), (h_m_s, .inl (cI, 116, .inl z10.2.2.1)), (h_m_past, .inl (cI, 464, .inl z10.2.2.2)), (h_m_held, .inl (cI, 116, .inl m_held)), (h_m_text, .inl (cI, 60, .inl m_text)), (h_m_now, .inl (cI, 10, .inl m_now)), (h_m_kept, .inl (cI, 16, .inl m_kept))]) hc m_X6_153 (c_X6_turn l D cI cS X F h_m h_m_s h_m_past h_m_held h_m_text h_m_now h_m_kept m_pasts m_runs0 m_typed m_spot m_reason m_cause m_orders m_kindNow m_placeNow m_s m_past m_held m_text m_now m_kept hu11) 0 [0, 1, 2, 3, 4, 5, 6] rfl rfl (rmok_of (Nat.le_of_ble_eq_true rfl)) ⟨Nat.zero_le _, Nat.zero_le _⟩ rfl rfl rfl rfl rfl ⟨rfl, rfl, rfl⟩ dX6_does_64 ?_
        refine G_ldc (v := -1000002) hc k_X6_49 dX6_does_67 ?_
        obtain ⟨t12, hr14, h⟩ := ob h
        have hj13 : G p l e (rmk 7) s m [.ref h_m, .int a1, .int a2].toArray below meth c D A 4 0 0 (QI below [.ref h_m, .int a1, .int a2].toArray s D A (PoI res.1 [(h_m, .inr (6, [.ref h_m_s, .ref h_m_past, .ref h_m_held, .int res.2.1, .int m_runs0, .ref h_m_text, .int m_typed, .ref h_m_now, .ref h_m_kept, .int m_spot, .int m_reason, .int m_cause, .int m_orders, .int m_kindNow, .int m_placeNow])), (h_m_s, .inl (cI, 116, .inl res.2.2.1)), (h_m_past, .inl (cI, 464, .inl res.2.2.2.1)), (h_m_held, .inl (cI, 116, .inl m_held)), (h_m_text, .inl (cI, 60, .inl m_text)), (h_m_now, .inl (cI, 10, .inl res.2.2.2.2.1)), (h_m_kept, .inl (cI, 16, .inl res.2.2.2.2.2))])) [(h_m, .inr (6, [.ref h_m_s, .ref h_m_past, .ref h_m_held, .int z10.2.1, .int m_runs0, .ref h_m_text, .int m_typed, .ref h_m_now, .ref h_m_kept, .int m_spot, .int m_reason, .int m_cause, .int m_orders, .int m_kindNow, .int m_placeNow])), (h_m_s, .inl (cI, 116, .inl z10.2.2.1)), (h_m_past, .inl (cI, 464, .inl z10.2.2.2)), (h_m_held, .inl (cI, 116, .inl m_held)), (h_m_text, .inl (cI, 60, .inl m_text)), (h_m_now, .inl (cI, 10, .inl m_now)), (h_m_kept, .inl (cI, 16, .inl m_kept))] [] 77 [.int t12] := by
          have h := Option.some.inj h
          subst h
          exact G_ireturn hc ⟨rfl, rfl⟩ dX6_does_77
        clear h
        have h := hr14
        clear hr14
        refine G_icmp_ne (tgt := 76) hc dX6_does_69 (by decide) (fun c15 => ?_) (fun c15 => ?_)
        · have h := inn h c15
          refine G_iconst (v := 0) hc dX6_does_76 (by decide) ?_
          have h := Option.some.inj h
          subst h
          refine G_lv (lv' := []) lsame_nil ?_
          exact hj13
        · have h := ip h c15
          refine G_iconst (v := 3) hc dX6_does_72 (by decide) ?_
          refine G_goto (tgt := 77) hc dX6_does_73 (by decide) ?_
          have h := Option.some.inj h
          subst h
          refine G_lv (lv' := []) lsame_nil ?_
          exact hj13
      · have h := inn h c9
        by_cases c16 : a1 = (2 : Int32)
        · have h := ip h c16
          refine G_tableIn (tgt := 78) hc dX6_does_16 (2 : Int32) c16 (by decide) (by decide) rfl (by decide) ?_
          refine G_aload_n hc dX6_does_78 rfl ?_
          refine G_aload_n hc dX6_does_79 rfl ?_
          refine G_get hc f_X6_135 0 rfl rfl dX6_does_80 ?_
          obtain ⟨z17, hu18, h⟩ := ob h
          refine G_callVI (ws2 := [(h_m, .inr (6, [.ref h_m_s, .ref h_m_past, .ref h_m_held, .int z17.2.1, .int m_runs0, .ref h_m_text, .int m_typed, .ref h_m_now, .ref h_m_kept, .int m_spot, .int m_reason, .int m_cause, .int m_orders, .int m_kindNow, .int m_placeNow])), (h_m_s, .inl (cI, 116, .inl z17.2.2.1)), (h_m_past, .inl (cI, 464, .inl z17.2.2.2.1)), (h_m_held, .inl (cI, 116, .inl m_held)), (h_m_text, .inl (cI, 60, .inl m_text)), (h_m_now, .inl (cI, 10, .inl z17.2.2.2.2.1)), (h_m_kept, .inl (cI, 16, .inl z17.2.2.2.2.2))]) hc m_X6_156 (c_X6_next l D cI cS X F h_m h_m_s h_m_past h_m_held h_m_text h_m_now h_m_kept m_pasts m_runs0 m_typed m_spot m_reason m_cause m_orders m_kindNow m_placeNow m_s m_past m_held m_text m_now m_kept m_kindNow hu18) 0 [0, 1, 2, 3, 4, 5, 6] rfl rfl (rmok_of (Nat.le_of_ble_eq_true rfl)) ⟨Nat.zero_le _, Nat.zero_le _⟩ rfl rfl rfl rfl rfl ⟨rfl, rfl, rfl⟩ dX6_does_83 ?_
          refine G_ldc (v := -1000002) hc k_X6_49 dX6_does_86 ?_
          obtain ⟨t19, hr21, h⟩ := ob h
          have hj20 : G p l e (rmk 7) s m [.ref h_m, .int a1, .int a2].toArray below meth c D A 4 0 0 (QI below [.ref h_m, .int a1, .int a2].toArray s D A (PoI res.1 [(h_m, .inr (6, [.ref h_m_s, .ref h_m_past, .ref h_m_held, .int res.2.1, .int m_runs0, .ref h_m_text, .int m_typed, .ref h_m_now, .ref h_m_kept, .int m_spot, .int m_reason, .int m_cause, .int m_orders, .int m_kindNow, .int m_placeNow])), (h_m_s, .inl (cI, 116, .inl res.2.2.1)), (h_m_past, .inl (cI, 464, .inl res.2.2.2.1)), (h_m_held, .inl (cI, 116, .inl m_held)), (h_m_text, .inl (cI, 60, .inl m_text)), (h_m_now, .inl (cI, 10, .inl res.2.2.2.2.1)), (h_m_kept, .inl (cI, 16, .inl res.2.2.2.2.2))])) [(h_m, .inr (6, [.ref h_m_s, .ref h_m_past, .ref h_m_held, .int z17.2.1, .int m_runs0, .ref h_m_text, .int m_typed, .ref h_m_now, .ref h_m_kept, .int m_spot, .int m_reason, .int m_cause, .int m_orders, .int m_kindNow, .int m_placeNow])), (h_m_s, .inl (cI, 116, .inl z17.2.2.1)), (h_m_past, .inl (cI, 464, .inl z17.2.2.2.1)), (h_m_held, .inl (cI, 116, .inl m_held)), (h_m_text, .inl (cI, 60, .inl m_text)), (h_m_now, .inl (cI, 10, .inl z17.2.2.2.2.1)), (h_m_kept, .inl (cI, 16, .inl z17.2.2.2.2.2))] [] 96 [.int t19] := by
            have h := Option.some.inj h
            subst h
            exact G_ireturn hc ⟨rfl, rfl⟩ dX6_does_96
          clear h
          have h := hr21
          clear hr21
          refine G_icmp_ne (tgt := 95) hc dX6_does_88 (by decide) (fun c22 => ?_) (fun c22 => ?_)
          · have h := inn h c22
            refine G_iconst (v := 0) hc dX6_does_95 (by decide) ?_
            have h := Option.some.inj h
            subst h
            refine G_lv (lv' := []) lsame_nil ?_
            exact hj20
          · have h := ip h c22
            refine G_iconst (v := 1) hc dX6_does_91 (by decide) ?_
            refine G_goto (tgt := 96) hc dX6_does_92 (by decide) ?_
            have h := Option.some.inj h
            subst h
            refine G_lv (lv' := []) lsame_nil ?_
            exact hj20
        · have h := inn h c16
          by_cases c23 : a1 = (3 : Int32)
          · have h := ip h c23
            refine G_tableIn (tgt := 97) hc dX6_does_16 (3 : Int32) c23 (by decide) (by decide) rfl (by decide) ?_
            refine G_aload_n hc dX6_does_97 rfl ?_
            refine G_aload_n hc dX6_does_98 rfl ?_
            refine G_get hc f_X6_135 0 rfl rfl dX6_does_99 ?_
            refine G_aload_n hc dX6_does_102 rfl ?_
            refine G_get hc f_X6_138 0 rfl rfl dX6_does_103 ?_
            obtain ⟨z24, hu25, h⟩ := ob h
            refine G_callVI (ws2 := [(h_m, .inr (6, [.ref h_m_s, .ref h_m_past, .ref h_m_held, .int z24.2.1, .int m_runs0, .ref h_m_text, .int m_typed, .ref h_m_now, .ref h_m_kept, .int m_spot, .int m_reason, .int m_cause, .int m_orders, .int m_kindNow, .int m_placeNow])), (h_m_s, .inl (cI, 116, .inl z24.2.2.1)), (h_m_past, .inl (cI, 464, .inl z24.2.2.2.1)), (h_m_held, .inl (cI, 116, .inl m_held)), (h_m_text, .inl (cI, 60, .inl m_text)), (h_m_now, .inl (cI, 10, .inl z24.2.2.2.2.1)), (h_m_kept, .inl (cI, 16, .inl z24.2.2.2.2.2))]) hc m_X6_159 (c_X6_at l D cI cS X F h_m h_m_s h_m_past h_m_held h_m_text h_m_now h_m_kept m_pasts m_runs0 m_typed m_spot m_reason m_cause m_orders m_kindNow m_placeNow m_s m_past m_held m_text m_now m_kept m_kindNow m_placeNow hu25) 0 [0, 1, 2, 3, 4, 5, 6] rfl rfl (rmok_of (Nat.le_of_ble_eq_true rfl)) ⟨Nat.zero_le _, Nat.zero_le _⟩ rfl rfl rfl rfl rfl ⟨rfl, rfl, rfl⟩ dX6_does_106 ?_
            refine G_ldc (v := -1000002) hc k_X6_49 dX6_does_109 ?_
            obtain ⟨t26, hr28, h⟩ := ob h
            have hj27 : G p l e (rmk 7) s m [.ref h_m, .int a1, .int a2].toArray below meth c D A 4 0 0 (QI below [.ref h_m, .int a1, .int a2].toArray s D A (PoI res.1 [(h_m, .inr (6, [.ref h_m_s, .ref h_m_past, .ref h_m_held, .int res.2.1, .int m_runs0, .ref h_m_text, .int m_typed, .ref h_m_now, .ref h_m_kept, .int m_spot, .int m_reason, .int m_cause, .int m_orders, .int m_kindNow, .int m_placeNow])), (h_m_s, .inl (cI, 116, .inl res.2.2.1)), (h_m_past, .inl (cI, 464, .inl res.2.2.2.1)), (h_m_held, .inl (cI, 116, .inl m_held)), (h_m_text, .inl (cI, 60, .inl m_text)), (h_m_now, .inl (cI, 10, .inl res.2.2.2.2.1)), (h_m_kept, .inl (cI, 16, .inl res.2.2.2.2.2))])) [(h_m, .inr (6, [.ref h_m_s, .ref h_m_past, .ref h_m_held, .int z24.2.1, .int m_runs0, .ref h_m_text, .int m_typed, .ref h_m_now, .ref h_m_kept, .int m_spot, .int m_reason, .int m_cause, .int m_orders, .int m_kindNow, .int m_placeNow])), (h_m_s, .inl (cI, 116, .inl z24.2.2.1)), (h_m_past, .inl (cI, 464, .inl z24.2.2.2.1)), (h_m_held, .inl (cI, 116, .inl m_held)), (h_m_text, .inl (cI, 60, .inl m_text)), (h_m_now, .inl (cI, 10, .inl z24.2.2.2.2.1)), (h_m_kept, .inl (cI, 16, .inl z24.2.2.2.2.2))] [] 119 [.int t26] := by
              have h := Option.some.inj h
              subst h
              exact G_ireturn hc ⟨rfl, rfl⟩ dX6_does_119
            clear h
            have h := hr28
            clear hr28
            refine G_icmp_ne (tgt := 118) hc dX6_does_111 (by decide) (fun c29 => ?_) (fun c29 => ?_)
            · have h := inn h c29
              refine G_iconst (v := 0) hc dX6_does_118 (by decide) ?_
              have h := Option.some.inj h
              subst h
              refine G_lv (lv' := []) lsame_nil ?_
              exact hj27
            · have h := ip h c29
              refine G_iconst (v := 1) hc dX6_does_114 (by decide) ?_
              refine G_goto (tgt := 119) hc dX6_does_115 (by decide) ?_
              have h := Option.some.inj h
              subst h
              refine G_lv (lv' := []) lsame_nil ?_
              exact hj27
          · have h := inn h c23
            refine G_tableOut (tgt := 120) hc dX6_does_16 (sw_out_0_3 c6 c9 c16 c23) (by decide) ?_
            refine G_aload_n hc dX6_does_120 rfl ?_
            refine G_get hc f_X6_7 0 rfl rfl dX6_does_121 ?_
            refine G_bipush (v := 27) hc dX6_does_124 (by decide) ?_
            obtain ⟨v30, i_v30, e_v30, h⟩ := rb h
            refine G_iald hc 1 rfl i_v30 e_v30 dX6_does_126 ?_
            refine G_bipush (v := 8) hc dX6_does_127 (by decide) ?_
            obtain ⟨t31, hr33, h⟩ := ob h
            have hj32 : G p l e (rmk 7) s m [.ref h_m, .int a1, .int a2].toArray below meth c D A 4 0 0 (QI below [.ref h_m, .int a1, .int a2].toArray s D A (PoI res.1 [(h_m, .inr (6, [.ref h_m_s, .ref h_m_past, .ref h_m_held, .int res.2.1, .int m_runs0, .ref h_m_text, .int m_typed, .ref h_m_now, .ref h_m_kept, .int m_spot, .int m_reason, .int m_cause, .int m_orders, .int m_kindNow, .int m_placeNow])), (h_m_s, .inl (cI, 116, .inl res.2.2.1)), (h_m_past, .inl (cI, 464, .inl res.2.2.2.1)), (h_m_held, .inl (cI, 116, .inl m_held)), (h_m_text, .inl (cI, 60, .inl m_text)), (h_m_now, .inl (cI, 10, .inl res.2.2.2.2.1)), (h_m_kept, .inl (cI, 16, .inl res.2.2.2.2.2))])) [(h_m, .inr (6, [.ref h_m_s, .ref h_m_past, .ref h_m_held, .int t31.2.1, .int m_runs0, .ref h_m_text, .int m_typed, .ref h_m_now, .ref h_m_kept, .int m_spot, .int m_reason, .int m_cause, .int m_orders, .int m_kindNow, .int m_placeNow])), (h_m_s, .inl (cI, 116, .inl t31.2.2.1)), (h_m_past, .inl (cI, 464, .inl t31.2.2.2)), (h_m_held, .inl (cI, 116, .inl m_held)), (h_m_text, .inl (cI, 60, .inl m_text)), (h_m_now, .inl (cI, 10, .inl m_now)), (h_m_kept, .inl (cI, 16, .inl m_kept))] [] 156 [.int t31.1] := by
              have h := Option.some.inj h
              subst h
              exact G_ireturn hc ⟨rfl, rfl⟩ dX6_does_156
            clear h
            have h := hr33
            clear hr33
            refine G_icmp_ne (tgt := 136) hc dX6_does_129 (by decide) (fun c38 => ?_) (fun c38 => ?_)
            · have h := inn h c38
              refine G_iload_n hc dX6_does_136 rfl ?_
              refine G_if_eq (tgt := 144) hc dX6_does_137 (by decide) (fun c37 => ?_) (fun c37 => ?_)
              · have h := ip h c37
                refine G_aload_n hc dX6_does_144 rfl ?_
                obtain ⟨z34, hu35, h⟩ := ob h
                refine G_callVI (ws2 := [(h_m, .inr (6, [.ref h_m_s, .ref h_m_past, .ref h_m_held, .int z34.2.1, .int m_runs0, .ref h_m_text, .int m_typed, .ref h_m_now, .ref h_m_kept, .int m_spot, .int m_reason, .int m_cause, .int m_orders, .int m_kindNow, .int m_placeNow])), (h_m_s, .inl (cI, 116, .inl z34.2.2.1)), (h_m_past, .inl (cI, 464, .inl z34.2.2.2)), (h_m_held, .inl (cI, 116, .inl m_held)), (h_m_text, .inl (cI, 60, .inl m_text)), (h_m_now, .inl (cI, 10, .inl m_now)), (h_m_kept, .inl (cI, 16, .inl m_kept))]) hc m_X6_162 (c_X6_keep l D cI cS X F h_m h_m_s h_m_past h_m_held h_m_text h_m_now h_m_kept m_pasts m_runs0 m_typed m_spot m_reason m_cause m_orders m_kindNow m_placeNow m_s m_past m_held m_text m_now m_kept hu35) 0 [0, 1, 2, 3, 4, 5, 6] rfl rfl (rmok_of (Nat.le_of_ble_eq_true rfl)) ⟨Nat.zero_le _, Nat.zero_le _⟩ rfl rfl rfl rfl rfl ⟨rfl, rfl, rfl⟩ dX6_does_145 ?_
                refine G_if_le (tgt := 155) hc dX6_does_148 (by decide) (fun c36 => ?_) (fun c36 => ?_)
                · have h := ip h c36
                  refine G_iconst (v := 2) hc dX6_does_155 (by decide) ?_
                  have h := Option.some.inj h
                  subst h
                  refine G_lv (lv' := []) lsame_nil ?_
                  exact hj32
                · have h := inn h c36
                  refine G_iconst (v := 0) hc dX6_does_151 (by decide) ?_
                  refine G_goto (tgt := 156) hc dX6_does_152 (by decide) ?_
                  have h := Option.some.inj h
                  subst h
                  refine G_lv (lv' := []) lsame_nil ?_
                  exact hj32
              · have h := inn h c37
                refine G_iconst (v := 3) hc dX6_does_140 (by decide) ?_
                refine G_goto (tgt := 156) hc dX6_does_141 (by decide) ?_
                have h := Option.some.inj h
                subst h
                refine G_lv (lv' := []) lsame_nil ?_
                exact hj32
            · have h := ip h c38
              refine G_iconst (v := 2) hc dX6_does_132 (by decide) ?_
              refine G_goto (tgt := 156) hc dX6_does_133 (by decide) ?_
              have h := Option.some.inj h
              subst h
              refine G_lv (lv' := []) lsame_nil ?_
              exact hj32
  clear h
  have h := hr4
  clear hr4
  refine G_if_ne (tgt := 13) hc dX6_does_6 (by decide) (fun c5 => ?_) (fun c5 => ?_)
  · have h := inn h c5
    refine G_iconst (v := 0) hc dX6_does_13 (by decide) ?_
    have h := Option.some.inj h
    subst h
    refine G_lv (lv' := [(0, .ref h_m), (1, .int a1), (2, .int a2)]) (lsame_cons rfl (lsame_cons rfl (lsame_cons rfl lsame_nil))) ?_
    exact hj3
  · have h := ip h c5
    refine G_iconst (v := 1) hc dX6_does_9 (by decide) ?_
    refine G_goto (tgt := 14) hc dX6_does_10 (by decide) ?_
    have h := Option.some.inj h
    subst h
    refine G_lv (lv' := [(0, .ref h_m), (1, .int a1), (2, .int a2)]) (lsame_cons rfl (lsame_cons rfl (lsame_cons rfl lsame_nil))) ?_
    exact hj3
