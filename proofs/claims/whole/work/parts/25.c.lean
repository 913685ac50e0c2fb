set_option maxHeartbeats 4000000 in
set_option maxRecDepth 100000 in
theorem c_X6_plays (l : Launch) (D : va_G) (cI cS : ClassId) (X : XP) (F : Nat) (h_m h_m_s h_m_past h_m_held h_m_text h_m_now h_m_kept : Nat) (m_pasts : Int32) (m_runs0 : Int32) (m_typed : Int32) (m_spot : Int32) (m_reason : Int32) (m_cause : Int32) (m_orders : Int32) (m_kindNow : Int32) (m_placeNow : Int32) (m_s : Nat → Int32) (m_past : Nat → Int32) (m_held : Nat → Int32) (m_text : Nat → Int32) (m_now : Nat → Int32) (m_kept : Nat → Int32) {res : Int32 × Int32 × Int32 × Int32 × Int32 × Int32 × Int32 × Int32 × Int32 × (Nat → Int32) × (Nat → Int32) × (Nat → Int32) × (Nat → Int32)} (h : f_X6_plays F m_pasts m_typed m_kindNow m_placeNow m_s m_past m_text m_now m_kept = some res) : CtI l D cI cS X yX6_plays cX6_plays 3 (some .int) 8 [.ref h_m] [(h_m, .inr (6, [.ref h_m_s, .ref h_m_past, .ref h_m_held, .int m_pasts, .int m_runs0, .ref h_m_text, .int m_typed, .ref h_m_now, .ref h_m_kept, .int m_spot, .int m_reason, .int m_cause, .int m_orders, .int m_kindNow, .int m_placeNow])), (h_m_s, .inl (cI, 116, .inl m_s)), (h_m_past, .inl (cI, 464, .inl m_past)), (h_m_held, .inl (cI, 116, .inl m_held)), (h_m_text, .inl (cI, 60, .inl m_text)), (h_m_now, .inl (cI, 10, .inl m_now)), (h_m_kept, .inl (cI, 16, .inl m_kept))] (PoI res.1 [(h_m, .inr (6, [.ref h_m_s, .ref h_m_past, .ref h_m_held, .int res.2.1, .int res.2.2.1, .ref h_m_text, .int m_typed, .ref h_m_now, .ref h_m_kept, .int res.2.2.2.1, .int res.2.2.2.2.1, .int res.2.2.2.2.2.1, .int res.2.2.2.2.2.2.1, .int res.2.2.2.2.2.2.2.1, .int res.2.2.2.2.2.2.2.2.1])), (h_m_s, .inl (cI, 116, .inl res.2.2.2.2.2.2.2.2.2.1)), (h_m_past, .inl (cI, 464, .inl res.2.2.2.2.2.2.2.2.2.2.1)), (h_m_held, .inl (cI, 116, .inl m_held)), (h_m_text, .inl (cI, 60, .inl m_text)), (h_m_now, .inl (cI, 10, .inl res.2.2.2.2.2.2.2.2.2.2.2.1)), (h_m_kept, .inl (cI, 16, .inl res.2.2.2.2.2.2.2.2.2.2.2.2))]) := by
  refine CtI.of (by decide +kernel) rfl ?_
  intro p e s m below meth c A hc
  refine G_lv (lv' := [(0, .ref h_m)]) (lsame_cons rfl lsame_nil) ?_
  unfold f_X6_plays at h
  refine G_aload_n hc dX6_plays_0 rfl ?_
  refine G_iconst (v := 1) hc dX6_plays_1 (by decide) ?_
  refine G_putz (ws' := [(h_m, .inr (6, [.ref h_m_s, .ref h_m_past, .ref h_m_held, .int m_pasts, .int (1 : Int32), .ref h_m_text, .int m_typed, .ref h_m_now, .ref h_m_kept, .int m_spot, .int m_reason, .int m_cause, .int m_orders, .int m_kindNow, .int m_placeNow])), (h_m_s, .inl (cI, 116, .inl m_s)), (h_m_past, .inl (cI, 464, .inl m_past)), (h_m_held, .inl (cI, 116, .inl m_held)), (h_m_text, .inl (cI, 60, .inl m_text)), (h_m_now, .inl (cI, 10, .inl m_now)), (h_m_kept, .inl (cI, 16, .inl m_kept))]) hc f_X6_32 p_X6_4 0 (by decide) rfl rfl rfl dX6_plays_2 ?_
  refine G_aload_n hc dX6_plays_5 rfl ?_
  refine G_iconst (v := 0) hc dX6_plays_6 (by decide) ?_
  refine G_puti (ws' := [(h_m, .inr (6, [.ref h_m_s, .ref h_m_past, .ref h_m_held, .int m_pasts, .int (1 : Int32), .ref h_m_text, .int m_typed, .ref h_m_now, .ref h_m_kept, .int (0 : Int32), .int m_reason, .int m_cause, .int m_orders, .int m_kindNow, .int m_placeNow])), (h_m_s, .inl (cI, 116, .inl m_s)), (h_m_past, .inl (cI, 464, .inl m_past)), (h_m_held, .inl (cI, 116, .inl m_held)), (h_m_text, .inl (cI, 60, .inl m_text)), (h_m_now, .inl (cI, 10, .inl m_now)), (h_m_kept, .inl (cI, 16, .inl m_kept))]) hc f_X6_122 p_X6_9 0 rfl rfl rfl dX6_plays_7 ?_
  refine G_aload_n hc dX6_plays_10 rfl ?_
  refine G_iconst (v := 0) hc dX6_plays_11 (by decide) ?_
  refine G_puti (ws' := [(h_m, .inr (6, [.ref h_m_s, .ref h_m_past, .ref h_m_held, .int m_pasts, .int (1 : Int32), .ref h_m_text, .int m_typed, .ref h_m_now, .ref h_m_kept, .int (0 : Int32), .int m_reason, .int m_cause, .int (0 : Int32), .int m_kindNow, .int m_placeNow])), (h_m_s, .inl (cI, 116, .inl m_s)), (h_m_past, .inl (cI, 464, .inl m_past)), (h_m_held, .inl (cI, 116, .inl m_held)), (h_m_text, .inl (cI, 60, .inl m_text)), (h_m_now, .inl (cI, 10, .inl m_now)), (h_m_kept, .inl (cI, 16, .inl m_kept))]) hc f_X6_165 p_X6_12 0 rfl rfl rfl dX6_plays_12 ?_
  refine G_aload_n hc dX6_plays_15 rfl ?_
  refine G_iconst (v := 0) hc dX6_plays_16 (by decide) ?_
  refine G_puti (ws' := [(h_m, .inr (6, [.ref h_m_s, .ref h_m_past, .ref h_m_held, .int m_pasts, .int (1 : Int32), .ref h_m_text, .int m_typed, .ref h_m_now, .ref h_m_kept, .int (0 : Int32), .int (0 : Int32), .int m_cause, .int (0 : Int32), .int m_kindNow, .int m_placeNow])), (h_m_s, .inl (cI, 116, .inl m_s)), (h_m_past, .inl (cI, 464, .inl m_past)), (h_m_held, .inl (cI, 116, .inl m_held)), (h_m_text, .inl (cI, 60, .inl m_text)), (h_m_now, .inl (cI, 10, .inl m_now)), (h_m_kept, .inl (cI, 16, .inl m_kept))]) hc f_X6_168 p_X6_10 0 rfl rfl rfl dX6_plays_17 ?_
  refine G_aload_n hc dX6_plays_20 rfl ?_
  refine G_iconst (v := 0) hc dX6_plays_21 (by decide) ?_
  refine G_puti (ws' := [(h_m, .inr (6, [.ref h_m_s, .ref h_m_past, .ref h_m_held, .int m_pasts, .int (1 : Int32), .ref h_m_text, .int m_typed, .ref h_m_now, .ref h_m_kept, .int (0 : Int32), .int (0 : Int32), .int (0 : Int32), .int (0 : Int32), .int m_kindNow, .int m_placeNow])), (h_m_s, .inl (cI, 116, .inl m_s)), (h_m_past, .inl (cI, 464, .inl m_past)), (h_m_held, .inl (cI, 116, .inl m_held)), (h_m_text, .inl (cI, 60, .inl m_text)), (h_m_now, .inl (cI, 10, .inl m_now)), (h_m_kept, .inl (cI, 16, .inl m_kept))]) hc f_X6_171 p_X6_11 0 rfl rfl rfl dX6_plays_22 ?_
  refine G_iconst (v := 0) hc dX6_plays_25 (by decide) ?_
  refine G_istore_n (lv' := [(0, .ref h_m), (1, .int (0 : Int32))]) hc dX6_plays_26 rfl rfl ?_
  obtain ⟨e13, hl14, h⟩ := ob h
  have hK18 : G p l e (rmk 8) s m [.ref h_m].toArray below meth c D A 3 0 0 (QI below [.ref h_m].toArray s D A (PoI res.1 [(h_m, .inr (6, [.ref h_m_s, .ref h_m_past, .ref h_m_held, .int res.2.1, .int res.2.2.1, .ref h_m_text, .int m_typed, .ref h_m_now, .ref h_m_kept, .int res.2.2.2.1, .int res.2.2.2.2.1, .int res.2.2.2.2.2.1, .int res.2.2.2.2.2.2.1, .int res.2.2.2.2.2.2.2.1, .int res.2.2.2.2.2.2.2.2.1])), (h_m_s, .inl (cI, 116, .inl res.2.2.2.2.2.2.2.2.2.1)), (h_m_past, .inl (cI, 464, .inl res.2.2.2.2.2.2.2.2.2.2.1)), (h_m_held, .inl (cI, 116, .inl m_held)), (h_m_text, .inl (cI, 60, .inl m_text)), (h_m_now, .inl (cI, 10, .inl res.2.2.2.2.2.2.2.2.2.2.2.1)), (h_m_kept, .inl (cI, 16, .inl res.2.2.2.2.2.2.2.2.2.2.2.2))])) [(h_m, .inr (6, [.ref h_m_s, .ref h_m_past, .ref h_m_held, .int e13.2.2.2.2.2.2.2.2.2.2.1, .int (1 : Int32), .ref h_m_text, .int m_typed, .ref h_m_now, .ref h_m_kept, .int e13.2.2.2.2.2.2.2.2.2.2.2, .int e13.2.2.2.2.2.1, .int e13.2.2.2.2.2.2.1, .int e13.2.2.2.2.2.2.2.1, .int e13.2.2.2.2.2.2.2.2.1, .int e13.2.2.2.2.2.2.2.2.2.1])), (h_m_s, .inl (cI, 116, .inl e13.2.2.2.2.1)), (h_m_past, .inl (cI, 464, .inl e13.2.2.2.1)), (h_m_held, .inl (cI, 116, .inl m_held)), (h_m_text, .inl (cI, 60, .inl m_text)), (h_m_now, .inl (cI, 10, .inl e13.2.2.1)), (h_m_kept, .inl (cI, 16, .inl e13.2.1))] [(0, .ref h_m), (1, .int e13.1)] 189 [] := by
    refine G_aload_n hc dX6_plays_189 rfl ?_
    refine G_iconst (v := 0) hc dX6_plays_190 (by decide) ?_
    refine G_putz (ws' := [(h_m, .inr (6, [.ref h_m_s, .ref h_m_past, .ref h_m_held, .int e13.2.2.2.2.2.2.2.2.2.2.1, .int (0 : Int32), .ref h_m_text, .int m_typed, .ref h_m_now, .ref h_m_kept, .int e13.2.2.2.2.2.2.2.2.2.2.2, .int e13.2.2.2.2.2.1, .int e13.2.2.2.2.2.2.1, .int e13.2.2.2.2.2.2.2.1, .int e13.2.2.2.2.2.2.2.2.1, .int e13.2.2.2.2.2.2.2.2.2.1])), (h_m_s, .inl (cI, 116, .inl e13.2.2.2.2.1)), (h_m_past, .inl (cI, 464, .inl e13.2.2.2.1)), (h_m_held, .inl (cI, 116, .inl m_held)), (h_m_text, .inl (cI, 60, .inl m_text)), (h_m_now, .inl (cI, 10, .inl e13.2.2.1)), (h_m_kept, .inl (cI, 16, .inl e13.2.1))]) hc f_X6_32 p_X6_4 0 (by decide) rfl rfl rfl dX6_plays_191 ?_
    refine G_aload_n hc dX6_plays_194 rfl ?_
    refine G_get hc f_X6_168 0 rfl rfl dX6_plays_195 ?_
    obtain ⟨t74, hr76, h⟩ := ob h
    have hj75 : G p l e (rmk 8) s m [.ref h_m].toArray below meth c D A 3 0 0 (QI below [.ref h_m].toArray s D A (PoI res.1 [(h_m, .inr (6, [.ref h_m_s, .ref h_m_past, .ref h_m_held, .int res.2.1, .int res.2.2.1, .ref h_m_text, .int m_typed, .ref h_m_now, .ref h_m_kept, .int res.2.2.2.1, .int res.2.2.2.2.1, .int res.2.2.2.2.2.1, .int res.2.2.2.2.2.2.1, .int res.2.2.2.2.2.2.2.1, .int res.2.2.2.2.2.2.2.2.1])), (h_m_s, .inl (cI, 116, .inl res.2.2.2.2.2.2.2.2.2.1)), (h_m_past, .inl (cI, 464, .inl res.2.2.2.2.2.2.2.2.2.2.1)), (h_m_held, .inl (cI, 116, .inl m_held)), (h_m_text, .inl (cI, 60, .inl m_text)), (h_m_now, .inl (cI, 10, .inl res.2.2.2.2.2.2.2.2.2.2.2.1)), (h_m_kept, .inl (cI, 16, .inl res.2.2.2.2.2.2.2.2.2.2.2.2))])) [(h_m, .inr (6, [.ref h_m_s, .ref h_m_past, .ref h_m_held, .int e13.2.2.2.2.2.2.2.2.2.2.1, .int (0 : Int32), .ref h_m_text, .int m_typed, .ref h_m_now, .ref h_m_kept, .int e13.2.2.2.2.2.2.2.2.2.2.2, .int e13.2.2.2.2.2.1, .int e13.2.2.2.2.2.2.1, .int e13.2.2.2.2.2.2.2.1, .int e13.2.2.2.2.2.2.2.2.1, .int e13.2.2.2.2.2.2.2.2.2.1])), (h_m_s, .inl (cI, 116, .inl e13.2.2.2.2.1)), (h_m_past, .inl (cI, 464, .inl e13.2.2.2.1)), (h_m_held, .inl (cI, 116, .inl m_held)), (h_m_text, .inl (cI, 60, .inl m_text)), (h_m_now, .inl (cI, 10, .inl e13.2.2.1)), (h_m_kept, .inl (cI, 16, .inl e13.2.1))] [] 207 [.int t74] := by
      have h := Option.some.inj h
      subst h
      exact G_ireturn hc ⟨rfl, rfl⟩ dX6_plays_207
    clear h
    have h := hr76
    clear hr76
    refine G_if_ne (tgt := 206) hc dX6_plays_198 (by decide) (fun c77 => ?_) (fun c77 => ?_)
    · have h := inn h c77
      refine G_iload_n hc dX6_plays_206 rfl ?_
      have h := Option.some.inj h
      subst h
      refine G_lv (lv' := []) lsame_nil ?_
      exact hj75
    · have h := ip h c77
      refine G_ldc (v := -1000004) hc k_X6_50 dX6_plays_201 ?_
      refine G_goto (tgt := 207) hc dX6_plays_203 (by decide) ?_
      have h := Option.some.inj h
      subst h
      refine G_lv (lv' := []) lsame_nil ?_
      exact hj75
  clear h
  have hL15 : ∀ (n16 : Nat) (u1 : Int32) (u2 : Nat → Int32) (u3 : Nat → Int32) (u4 : Nat → Int32) (u5 : Nat → Int32) (u6 : Int32) (u7 : Int32) (u8 : Int32) (u9 : Int32) (u10 : Int32) (u11 : Int32) (u12 : Int32), f_X6_plays_L27 F m_typed m_text n16 u1 u2 u3 u4 u5 u6 u7 u8 u9 u10 u11 u12 = some e13 → G p l e (rmk 8) s m [.ref h_m].toArray below meth c D A 3 0 0 (QI below [.ref h_m].toArray s D A (PoI res.1 [(h_m, .inr (6, [.ref h_m_s, .ref h_m_past, .ref h_m_held, .int res.2.1, .int res.2.2.1, .ref h_m_text, .int m_typed, .ref h_m_now, .ref h_m_kept, .int res.2.2.2.1, .int res.2.2.2.2.1, .int res.2.2.2.2.2.1, .int res.2.2.2.2.2.2.1, .int res.2.2.2.2.2.2.2.1, .int res.2.2.2.2.2.2.2.2.1])), (h_m_s, .inl (cI, 116, .inl res.2.2.2.2.2.2.2.2.2.1)), (h_m_past, .inl (cI, 464, .inl res.2.2.2.2.2.2.2.2.2.2.1)), (h_m_held, .inl (cI, 116, .inl m_held)), (h_m_text, .inl (cI, 60, .inl m_text)), (h_m_now, .inl (cI, 10, .inl res.2.2.2.2.2.2.2.2.2.2.2.1)), (h_m_kept, .inl (cI, 16, .inl res.2.2.2.2.2.2.2.2.2.2.2.2))])) [(h_m, .inr (6, [.ref h_m_s, .ref h_m_past, .ref h_m_held, .int u11, .int (1 : Int32), .ref h_m_text, .int m_typed, .ref h_m_now, .ref h_m_kept, .int u12, .int u6, .int u7, .int u8, .int u9, .int u10])), (h_m_s, .inl (cI, 116, .inl u5)), (h_m_past, .inl (cI, 464, .inl u4)), (h_m_held, .inl (cI, 116, .inl m_held)), (h_m_text, .inl (cI, 60, .inl m_text)), (h_m_now, .inl (cI, 10, .inl u3)), (h_m_kept, .inl (cI, 16, .inl u2))] [(0, .ref h_m), (1, .int u1)] 27 [] := by
    intro n16
    induction n16 with
    | zero =>
      intro u1 u2 u3 u4 u5 u6 u7 u8 u9 u10 u11 u12 h
      exact nz h
    | succ n16 ih17 =>
      intro u1 u2 u3 u4 u5 u6 u7 u8 u9 u10 u11 u12 h
      rw [f_X6_plays_L27] at h
      refine G_aload_n hc dX6_plays_27 rfl ?_
      refine G_get hc f_X6_122 0 rfl rfl dX6_plays_28 ?_
      refine G_aload_n hc dX6_plays_31 rfl ?_
      refine G_get hc f_X6_119 0 rfl rfl dX6_plays_32 ?_
      refine G_icmp_ge (tgt := 189) hc dX6_plays_35 (by decide) (fun c73 => ?_) (fun c73 => ?_)
      · have h := ip h c73
        have h := Option.some.inj h
        subst h
        refine G_lv (lv' := [(0, .ref h_m), (1, .int u1)]) (lsame_cons rfl (lsame_cons rfl lsame_nil)) ?_
        exact hK18
      · have h := inn h c73
        refine G_aload_n hc dX6_plays_38 rfl ?_
        refine G_get hc f_X6_168 0 rfl rfl dX6_plays_39 ?_
        refine G_if_ne (tgt := 189) hc dX6_plays_42 (by decide) (fun c72 => ?_) (fun c72 => ?_)
        · have h := inn h c72
          have h := Option.some.inj h
          subst h
          refine G_lv (lv' := [(0, .ref h_m), (1, .int u1)]) (lsame_cons rfl (lsame_cons rfl lsame_nil)) ?_
          exact hK18
        · have h := ip h c72
          refine G_aload_n hc dX6_plays_45 rfl ?_
          refine G_get hc f_X6_122 0 rfl rfl dX6_plays_46 ?_
          refine G_istore_n (lv' := [(0, .ref h_m), (1, .int u12)]) hc dX6_plays_49 rfl rfl ?_
          obtain ⟨e20, hl21, h⟩ := ob h
          have hK25 : G p l e (rmk 8) s m [.ref h_m].toArray below meth c D A 3 0 0 (QI below [.ref h_m].toArray s D A (PoI res.1 [(h_m, .inr (6, [.ref h_m_s, .ref h_m_past, .ref h_m_held, .int res.2.1, .int res.2.2.1, .ref h_m_text, .int m_typed, .ref h_m_now, .ref h_m_kept, .int res.2.2.2.1, .int res.2.2.2.2.1, .int res.2.2.2.2.2.1, .int res.2.2.2.2.2.2.1, .int res.2.2.2.2.2.2.2.1, .int res.2.2.2.2.2.2.2.2.1])), (h_m_s, .inl (cI, 116, .inl res.2.2.2.2.2.2.2.2.2.1)), (h_m_past, .inl (cI, 464, .inl res.2.2.2.2.2.2.2.2.2.2.1)), (h_m_held, .inl (cI, 116, .inl m_held)), (h_m_text, .inl (cI, 60, .inl m_text)), (h_m_now, .inl (cI, 10, .inl res.2.2.2.2.2.2.2.2.2.2.2.1)), (h_m_kept, .inl (cI, 16, .inl res.2.2.2.2.2.2.2.2.2.2.2.2))])) [(h_m, .inr (6, [.ref h_m_s, .ref h_m_past, .ref h_m_held, .int u11, .int (1 : Int32), .ref h_m_text, .int m_typed, .ref h_m_now, .ref h_m_kept, .int e20, .int u6, .int u7, .int u8, .int u9, .int u10])), (h_m_s, .inl (cI, 116, .inl u5)), (h_m_past, .inl (cI, 464, .inl u4)), (h_m_held, .inl (cI, 116, .inl m_held)), (h_m_text, .inl (cI, 60, .inl m_text)), (h_m_now, .inl (cI, 10, .inl u3)), (h_m_kept, .inl (cI, 16, .inl u2))] [(0, .ref h_m), (1, .int u12)] 74 [] := by
            refine G_aload_n hc dX6_plays_74 rfl ?_
            refine G_iload_n hc dX6_plays_75 rfl ?_
            obtain ⟨z30, hu31, h⟩ := ob h
            refine G_callVI (ws2 := [(h_m, .inr (6, [.ref h_m_s, .ref h_m_past, .ref h_m_held, .int u11, .int (1 : Int32), .ref h_m_text, .int m_typed, .ref h_m_now, .ref h_m_kept, .int e20, .int u6, .int u7, .int u8, .int u9, .int u10])), (h_m_s, .inl (cI, 116, .inl u5)), (h_m_past, .inl (cI, 464, .inl u4)), (h_m_held, .inl (cI, 116, .inl m_held)), (h_m_text, .inl (cI, 60, .inl m_text)), (h_m_now, .inl (cI, 10, .inl u3)), (h_m_kept, .inl (cI, 16, .inl u2))]) hc m_X6_174 (c_X6_wordAt l D cI cS X F h_m h_m_s h_m_past h_m_held h_m_text h_m_now h_m_kept u11 (1 : Int32) m_typed e20 u6 u7 u8 u9 u10 u5 u4 m_held m_text u3 u2 u12 hu31) 0 [0, 1, 2, 3, 4, 5, 6] rfl rfl (rmok_of (Nat.le_of_ble_eq_true rfl)) ⟨Nat.zero_le _, Nat.zero_le _⟩ rfl rfl rfl rfl rfl ⟨rfl, rfl, rfl⟩ dX6_plays_76 ?_
            refine G_istore_n (lv' := [(0, .ref h_m), (1, .int u12), (2, .int z30)]) hc dX6_plays_79 rfl rfl ?_
            refine G_iload_n hc dX6_plays_80 rfl ?_
            obtain ⟨t32, hr34, h⟩ := ob h
            have hj33 : G p l e (rmk 8) s m [.ref h_m].toArray below meth c D A 3 0 0 (QI below [.ref h_m].toArray s D A (PoI res.1 [(h_m, .inr (6, [.ref h_m_s, .ref h_m_past, .ref h_m_held, .int res.2.1, .int res.2.2.1, .ref h_m_text, .int m_typed, .ref h_m_now, .ref h_m_kept, .int res.2.2.2.1, .int res.2.2.2.2.1, .int res.2.2.2.2.2.1, .int res.2.2.2.2.2.2.1, .int res.2.2.2.2.2.2.2.1, .int res.2.2.2.2.2.2.2.2.1])), (h_m_s, .inl (cI, 116, .inl res.2.2.2.2.2.2.2.2.2.1)), (h_m_past, .inl (cI, 464, .inl res.2.2.2.2.2.2.2.2.2.2.1)), (h_m_held, .inl (cI, 116, .inl m_held)), (h_m_text, .inl (cI, 60, .inl m_text)), (h_m_now, .inl (cI, 10, .inl res.2.2.2.2.2.2.2.2.2.2.2.1)), (h_m_kept, .inl (cI, 16, .inl res.2.2.2.2.2.2.2.2.2.2.2.2))])) [(h_m, .inr (6, [.ref h_m_s, .ref h_m_past, .ref h_m_held, .int t32.1, .int (1 : Int32), .ref h_m_text, .int m_typed, .ref h_m_now, .ref h_m_kept, .int t32.2.1, .int t32.2.2.1, .int t32.2.2.2.1, .int t32.2.2.2.2.1, .int t32.2.2.2.2.2.1, .int t32.2.2.2.2.2.2.1])), (h_m_s, .inl (cI, 116, .inl t32.2.2.2.2.2.2.2.1)), (h_m_past, .inl (cI, 464, .inl t32.2.2.2.2.2.2.2.2.1)), (h_m_held, .inl (cI, 116, .inl m_held)), (h_m_text, .inl (cI, 60, .inl m_text)), (h_m_now, .inl (cI, 10, .inl t32.2.2.2.2.2.2.2.2.2.1)), (h_m_kept, .inl (cI, 16, .inl t32.2.2.2.2.2.2.2.2.2.2))] [(0, .ref h_m), (1, .int u12)] 186 [] := by
              refine G_goto (tgt := 27) hc dX6_plays_186 (by decide) ?_
              refine G_lv (lv' := [(0, .ref h_m), (1, .int u12)]) (lsame_cons rfl (lsame_cons rfl lsame_nil)) ?_
              exact ih17 _ _ _ _ _ _ _ _ _ _ _ _ h
            clear h
            have h := hr34
            clear hr34
            refine G_if_lt (tgt := 92) hc dX6_plays_81 (by decide) (fun c71 => ?_) (fun c71 => ?_)
            · have h := ip h c71
              refine G_aload_n hc dX6_plays_92 rfl ?_
              refine G_iconst (v := 1) hc dX6_plays_93 (by decide) ?_
              refine G_puti (ws' := [(h_m, .inr (6, [.ref h_m_s, .ref h_m_past, .ref h_m_held, .int u11, .int (1 : Int32), .ref h_m_text, .int m_typed, .ref h_m_now, .ref h_m_kept, .int e20, .int (1 : Int32), .int u7, .int u8, .int u9, .int u10])), (h_m_s, .inl (cI, 116, .inl u5)), (h_m_past, .inl (cI, 464, .inl u4)), (h_m_held, .inl (cI, 116, .inl m_held)), (h_m_text, .inl (cI, 60, .inl m_text)), (h_m_now, .inl (cI, 10, .inl u3)), (h_m_kept, .inl (cI, 16, .inl u2))]) hc f_X6_168 p_X6_10 0 rfl rfl rfl dX6_plays_94 ?_
              refine G_aload_n hc dX6_plays_97 rfl ?_
              refine G_iload_n hc dX6_plays_98 rfl ?_
              obtain ⟨t35, hr37, h⟩ := ob h
              have hj36 : G p l e (rmk 8) s m [.ref h_m].toArray below meth c D A 3 0 0 (QI below [.ref h_m].toArray s D A (PoI res.1 [(h_m, .inr (6, [.ref h_m_s, .ref h_m_past, .ref h_m_held, .int res.2.1, .int res.2.2.1, .ref h_m_text, .int m_typed, .ref h_m_now, .ref h_m_kept, .int res.2.2.2.1, .int res.2.2.2.2.1, .int res.2.2.2.2.2.1, .int res.2.2.2.2.2.2.1, .int res.2.2.2.2.2.2.2.1, .int res.2.2.2.2.2.2.2.2.1])), (h_m_s, .inl (cI, 116, .inl res.2.2.2.2.2.2.2.2.2.1)), (h_m_past, .inl (cI, 464, .inl res.2.2.2.2.2.2.2.2.2.2.1)), (h_m_held, .inl (cI, 116, .inl m_held)), (h_m_text, .inl (cI, 60, .inl m_text)), (h_m_now, .inl (cI, 10, .inl res.2.2.2.2.2.2.2.2.2.2.2.1)), (h_m_kept, .inl (cI, 16, .inl res.2.2.2.2.2.2.2.2.2.2.2.2))])) [(h_m, .inr (6, [.ref h_m_s, .ref h_m_past, .ref h_m_held, .int u11, .int (1 : Int32), .ref h_m_text, .int m_typed, .ref h_m_now, .ref h_m_kept, .int e20, .int (1 : Int32), .int u7, .int u8, .int u9, .int u10])), (h_m_s, .inl (cI, 116, .inl u5)), (h_m_past, .inl (cI, 464, .inl u4)), (h_m_held, .inl (cI, 116, .inl m_held)), (h_m_text, .inl (cI, 60, .inl m_text)), (h_m_now, .inl (cI, 10, .inl u3)), (h_m_kept, .inl (cI, 16, .inl u2))] [(0, .ref h_m), (1, .int u12)] 112 [.int t35, .ref h_m] := by
                refine G_puti (ws' := [(h_m, .inr (6, [.ref h_m_s, .ref h_m_past, .ref h_m_held, .int u11, .int (1 : Int32), .ref h_m_text, .int m_typed, .ref h_m_now, .ref h_m_kept, .int e20, .int (1 : Int32), .int t35, .int u8, .int u9, .int u10])), (h_m_s, .inl (cI, 116, .inl u5)), (h_m_past, .inl (cI, 464, .inl u4)), (h_m_held, .inl (cI, 116, .inl m_held)), (h_m_text, .inl (cI, 60, .inl m_text)), (h_m_now, .inl (cI, 10, .inl u3)), (h_m_kept, .inl (cI, 16, .inl u2))]) hc f_X6_171 p_X6_11 0 rfl rfl rfl dX6_plays_112 ?_
                refine G_goto (tgt := 186) hc dX6_plays_115 (by decide) ?_
                have h := Option.some.inj h
                subst h
                refine G_lv (lv' := [(0, .ref h_m), (1, .int u12)]) (lsame_cons rfl (lsame_cons rfl lsame_nil)) ?_
                exact hj33
              clear h
              have h := hr37
              clear hr37
              refine G_if_ge (tgt := 106) hc dX6_plays_99 (by decide) (fun c38 => ?_) (fun c38 => ?_)
              · have h := ip h c38
                refine G_aload_n hc dX6_plays_106 rfl ?_
                refine G_get hc f_X6_122 0 rfl rfl dX6_plays_107 ?_
                refine G_iload_n hc dX6_plays_110 rfl ?_
                refine G_isub hc dX6_plays_111 ?_
                have h := Option.some.inj h
                subst h
                refine G_lv (lv' := [(0, .ref h_m), (1, .int u12)]) (lsame_cons rfl (lsame_cons rfl lsame_nil)) ?_
                exact hj36
              · have h := inn h c38
                refine G_iconst (v := 0) hc dX6_plays_102 (by decide) ?_
                refine G_goto (tgt := 112) hc dX6_plays_103 (by decide) ?_
                have h := Option.some.inj h
                subst h
                refine G_lv (lv' := [(0, .ref h_m), (1, .int u12)]) (lsame_cons rfl (lsame_cons rfl lsame_nil)) ?_
                exact hj36
            · have h := inn h c71
              refine G_aload_n hc dX6_plays_84 rfl ?_
              refine G_iload_n hc dX6_plays_85 rfl ?_
              obtain ⟨z39, hu40, h⟩ := ob h
              refine G_callVI (ws2 := [(h_m, .inr (6, [.ref h_m_s, .ref h_m_past, .ref h_m_held, .int u11, .int (1 : Int32), .ref h_m_text, .int m_typed, .ref h_m_now, .ref h_m_kept, .int z39.2.1, .int u6, .int u7, .int u8, .int z39.2.2.1, .int z39.2.2.2])), (h_m_s, .inl (cI, 116, .inl u5)), (h_m_past, .inl (cI, 464, .inl u4)), (h_m_held, .inl (cI, 116, .inl m_held)), (h_m_text, .inl (cI, 60, .inl m_text)), (h_m_now, .inl (cI, 10, .inl u3)), (h_m_kept, .inl (cI, 16, .inl u2))]) hc m_X6_177 (c_X6_isForm l D cI cS X F h_m h_m_s h_m_past h_m_held h_m_text h_m_now h_m_kept u11 (1 : Int32) m_typed e20 u6 u7 u8 u9 u10 u5 u4 m_held m_text u3 u2 z30 hu40) 0 [0, 1, 2, 3, 4, 5, 6] rfl rfl (rmok_of (Nat.le_of_ble_eq_true rfl)) ⟨Nat.zero_le _, Nat.zero_le _⟩ rfl rfl rfl rfl rfl ⟨rfl, rfl, rfl⟩ dX6_plays_86 ?_
              refine G_if_ne (tgt := 118) hc dX6_plays_89 (by decide) (fun c70 => ?_) (fun c70 => ?_)
              · have h := inn h c70
                refine G_iload_n hc dX6_plays_118 rfl ?_
                refine G_iconst (v := 2) hc dX6_plays_119 (by decide) ?_
                refine G_icmp_eq (tgt := 128) hc dX6_plays_120 (by decide) (fun c65 => ?_) (fun c65 => ?_)
                · have h := ip h c65
                  refine G_aload_n hc dX6_plays_128 rfl ?_
                  refine G_get hc f_X6_135 0 rfl rfl dX6_plays_129 ?_
                  refine G_iconst (v := 3) hc dX6_plays_132 (by decide) ?_
                  refine G_icmp_le (tgt := 150) hc dX6_plays_133 (by decide) (fun c48 => ?_) (fun c48 => ?_)
                  · have h := ip h c48
                    refine G_aload_n hc dX6_plays_150 rfl ?_
                    refine G_aload_n hc dX6_plays_151 rfl ?_
                    refine G_iload_n hc dX6_plays_152 rfl ?_
                    refine G_iload_n hc dX6_plays_153 rfl ?_
                    obtain ⟨z41, hu42, h⟩ := ob h
                    refine G_callVI (ws2 := [(h_m, .inr (6, [.ref h_m_s, .ref h_m_past, .ref h_m_held, .int z41.2.1, .int (1 : Int32), .ref h_m_text, .int m_typed, .ref h_m_now, .ref h_m_kept, .int z39.2.1, .int u6, .int u7, .int u8, .int z39.2.2.1, .int z39.2.2.2])), (h_m_s, .inl (cI, 116, .inl z41.2.2.1)), (h_m_past, .inl (cI, 464, .inl z41.2.2.2.1)), (h_m_held, .inl (cI, 116, .inl m_held)), (h_m_text, .inl (cI, 60, .inl m_text)), (h_m_now, .inl (cI, 10, .inl z41.2.2.2.2.1)), (h_m_kept, .inl (cI, 16, .inl z41.2.2.2.2.2))]) hc m_X6_180 (c_X6_does l D cI cS X F h_m h_m_s h_m_past h_m_held h_m_text h_m_now h_m_kept u11 (1 : Int32) m_typed z39.2.1 u6 u7 u8 z39.2.2.1 z39.2.2.2 u5 u4 m_held m_text u3 u2 z30 u12 hu42) 0 [0, 1, 2, 3, 4, 5, 6] rfl rfl (rmok_of (Nat.le_of_ble_eq_true rfl)) ⟨Nat.zero_le _, Nat.zero_le _⟩ rfl rfl rfl rfl rfl ⟨rfl, rfl, rfl⟩ dX6_plays_154 ?_
                    refine G_puti (ws' := [(h_m, .inr (6, [.ref h_m_s, .ref h_m_past, .ref h_m_held, .int z41.2.1, .int (1 : Int32), .ref h_m_text, .int m_typed, .ref h_m_now, .ref h_m_kept, .int z39.2.1, .int u6, .int z41.1, .int u8, .int z39.2.2.1, .int z39.2.2.2])), (h_m_s, .inl (cI, 116, .inl z41.2.2.1)), (h_m_past, .inl (cI, 464, .inl z41.2.2.2.1)), (h_m_held, .inl (cI, 116, .inl m_held)), (h_m_text, .inl (cI, 60, .inl m_text)), (h_m_now, .inl (cI, 10, .inl z41.2.2.2.2.1)), (h_m_kept, .inl (cI, 16, .inl z41.2.2.2.2.2))]) hc f_X6_171 p_X6_11 0 rfl rfl rfl dX6_plays_157 ?_
                    refine G_aload_n hc dX6_plays_160 rfl ?_
                    refine G_aload_n hc dX6_plays_161 rfl ?_
                    refine G_get hc f_X6_171 0 rfl rfl dX6_plays_162 ?_
                    obtain ⟨t43, hr45, h⟩ := ob h
                    have hj44 : G p l e (rmk 8) s m [.ref h_m].toArray below meth c D A 3 0 0 (QI below [.ref h_m].toArray s D A (PoI res.1 [(h_m, .inr (6, [.ref h_m_s, .ref h_m_past, .ref h_m_held, .int res.2.1, .int res.2.2.1, .ref h_m_text, .int m_typed, .ref h_m_now, .ref h_m_kept, .int res.2.2.2.1, .int res.2.2.2.2.1, .int res.2.2.2.2.2.1, .int res.2.2.2.2.2.2.1, .int res.2.2.2.2.2.2.2.1, .int res.2.2.2.2.2.2.2.2.1])), (h_m_s, .inl (cI, 116, .inl res.2.2.2.2.2.2.2.2.2.1)), (h_m_past, .inl (cI, 464, .inl res.2.2.2.2.2.2.2.2.2.2.1)), (h_m_held, .inl (cI, 116, .inl m_held)), (h_m_text, .inl (cI, 60, .inl m_text)), (h_m_now, .inl (cI, 10, .inl res.2.2.2.2.2.2.2.2.2.2.2.1)), (h_m_kept, .inl (cI, 16, .inl res.2.2.2.2.2.2.2.2.2.2.2.2))])) [(h_m, .inr (6, [.ref h_m_s, .ref h_m_past, .ref h_m_held, .int z41.2.1, .int (1 : Int32), .ref h_m_text, .int m_typed, .ref h_m_now, .ref h_m_kept, .int z39.2.1, .int u6, .int z41.1, .int u8, .int z39.2.2.1, .int z39.2.2.2])), (h_m_s, .inl (cI, 116, .inl z41.2.2.1)), (h_m_past, .inl (cI, 464, .inl z41.2.2.2.1)), (h_m_held, .inl (cI, 116, .inl m_held)), (h_m_text, .inl (cI, 60, .inl m_text)), (h_m_now, .inl (cI, 10, .inl z41.2.2.2.2.1)), (h_m_kept, .inl (cI, 16, .inl z41.2.2.2.2.2))] [(0, .ref h_m), (1, .int u12)] 173 [.int t43, .ref h_m] := by
                      refine G_puti (ws' := [(h_m, .inr (6, [.ref h_m_s, .ref h_m_past, .ref h_m_held, .int z41.2.1, .int (1 : Int32), .ref h_m_text, .int m_typed, .ref h_m_now, .ref h_m_kept, .int z39.2.1, .int t43, .int z41.1, .int u8, .int z39.2.2.1, .int z39.2.2.2])), (h_m_s, .inl (cI, 116, .inl z41.2.2.1)), (h_m_past, .inl (cI, 464, .inl z41.2.2.2.1)), (h_m_held, .inl (cI, 116, .inl m_held)), (h_m_text, .inl (cI, 60, .inl m_text)), (h_m_now, .inl (cI, 10, .inl z41.2.2.2.2.1)), (h_m_kept, .inl (cI, 16, .inl z41.2.2.2.2.2))]) hc f_X6_168 p_X6_10 0 rfl rfl rfl dX6_plays_173 ?_
                      refine G_aload_n hc dX6_plays_176 rfl ?_
                      refine G_dup hc dX6_plays_177 rfl ?_
                      refine G_get hc f_X6_165 0 rfl rfl dX6_plays_178 ?_
                      refine G_iconst (v := 1) hc dX6_plays_181 (by decide) ?_
                      refine G_iadd hc dX6_plays_182 ?_
                      obtain ⟨v47, e_v47, h⟩ := sb h
                      refine G_top e_v47 ?_
                      refine G_puti (ws' := [(h_m, .inr (6, [.ref h_m_s, .ref h_m_past, .ref h_m_held, .int z41.2.1, .int (1 : Int32), .ref h_m_text, .int m_typed, .ref h_m_now, .ref h_m_kept, .int z39.2.1, .int t43, .int z41.1, .int v47, .int z39.2.2.1, .int z39.2.2.2])), (h_m_s, .inl (cI, 116, .inl z41.2.2.1)), (h_m_past, .inl (cI, 464, .inl z41.2.2.2.1)), (h_m_held, .inl (cI, 116, .inl m_held)), (h_m_text, .inl (cI, 60, .inl m_text)), (h_m_now, .inl (cI, 10, .inl z41.2.2.2.2.1)), (h_m_kept, .inl (cI, 16, .inl z41.2.2.2.2.2))]) hc f_X6_165 p_X6_12 0 rfl rfl rfl dX6_plays_183 ?_
                      have h := Option.some.inj h
                      subst h
                      refine G_lv (lv' := [(0, .ref h_m), (1, .int u12)]) (lsame_cons rfl (lsame_cons rfl lsame_nil)) ?_
                      exact hj33
                    clear h
                    have h := hr45
                    clear hr45
                    refine G_if_le (tgt := 172) hc dX6_plays_165 (by decide) (fun c46 => ?_) (fun c46 => ?_)
                    · have h := ip h c46
                      refine G_iconst (v := 0) hc dX6_plays_172 (by decide) ?_
                      have h := Option.some.inj h
                      subst h
                      refine G_lv (lv' := [(0, .ref h_m), (1, .int u12)]) (lsame_cons rfl (lsame_cons rfl lsame_nil)) ?_
                      exact hj44
                    · have h := inn h c46
                      refine G_iconst (v := 3) hc dX6_plays_168 (by decide) ?_
                      refine G_goto (tgt := 173) hc dX6_plays_169 (by decide) ?_
                      have h := Option.some.inj h
                      subst h
                      refine G_lv (lv' := [(0, .ref h_m), (1, .int u12)]) (lsame_cons rfl (lsame_cons rfl lsame_nil)) ?_
                      exact hj44
                  · have h := inn h c48
                    refine G_aload_n hc dX6_plays_136 rfl ?_
                    refine G_iconst (v := 2) hc dX6_plays_137 (by decide) ?_
                    refine G_puti (ws' := [(h_m, .inr (6, [.ref h_m_s, .ref h_m_past, .ref h_m_held, .int u11, .int (1 : Int32), .ref h_m_text, .int m_typed, .ref h_m_now, .ref h_m_kept, .int z39.2.1, .int (2 : Int32), .int u7, .int u8, .int z39.2.2.1, .int z39.2.2.2])), (h_m_s, .inl (cI, 116, .inl u5)), (h_m_past, .inl (cI, 464, .inl u4)), (h_m_held, .inl (cI, 116, .inl m_held)), (h_m_text, .inl (cI, 60, .inl m_text)), (h_m_now, .inl (cI, 10, .inl u3)), (h_m_kept, .inl (cI, 16, .inl u2))]) hc f_X6_168 p_X6_10 0 rfl rfl rfl dX6_plays_138 ?_
                    refine G_aload_n hc dX6_plays_141 rfl ?_
                    refine G_ldc (v := -1000004) hc k_X6_50 dX6_plays_142 ?_
                    refine G_puti (ws' := [(h_m, .inr (6, [.ref h_m_s, .ref h_m_past, .ref h_m_held, .int u11, .int (1 : Int32), .ref h_m_text, .int m_typed, .ref h_m_now, .ref h_m_kept, .int z39.2.1, .int (2 : Int32), .int (-1000004 : Int32), .int u8, .int z39.2.2.1, .int z39.2.2.2])), (h_m_s, .inl (cI, 116, .inl u5)), (h_m_past, .inl (cI, 464, .inl u4)), (h_m_held, .inl (cI, 116, .inl m_held)), (h_m_text, .inl (cI, 60, .inl m_text)), (h_m_now, .inl (cI, 10, .inl u3)), (h_m_kept, .inl (cI, 16, .inl u2))]) hc f_X6_171 p_X6_11 0 rfl rfl rfl dX6_plays_144 ?_
                    refine G_goto (tgt := 186) hc dX6_plays_147 (by decide) ?_
                    have h := Option.some.inj h
                    subst h
                    refine G_lv (lv' := [(0, .ref h_m), (1, .int u12)]) (lsame_cons rfl (lsame_cons rfl lsame_nil)) ?_
                    exact hj33
                · have h := inn h c65
                  refine G_iload_n hc dX6_plays_123 rfl ?_
                  refine G_iconst (v := 3) hc dX6_plays_124 (by decide) ?_
                  refine G_icmp_ne (tgt := 150) hc dX6_plays_125 (by decide) (fun c64 => ?_) (fun c64 => ?_)
                  · have h := inn h c64
                    refine G_aload_n hc dX6_plays_150 rfl ?_
                    refine G_aload_n hc dX6_plays_151 rfl ?_
                    refine G_iload_n hc dX6_plays_152 rfl ?_
                    refine G_iload_n hc dX6_plays_153 rfl ?_
                    obtain ⟨z49, hu50, h⟩ := ob h
                    refine G_callVI (ws2 := [(h_m, .inr (6, [.ref h_m_s, .ref h_m_past, .ref h_m_held, .int z49.2.1, .int (1 : Int32), .ref h_m_text, .int m_typed, .ref h_m_now, .ref h_m_kept, .int z39.2.1, .int u6, .int u7, .int u8, .int z39.2.2.1, .int z39.2.2.2])), (h_m_s, .inl (cI, 116, .inl z49.2.2.1)), (h_m_past, .inl (cI, 464, .inl z49.2.2.2.1)), (h_m_held, .inl (cI, 116, .inl m_held)), (h_m_text, .inl (cI, 60, .inl m_text)), (h_m_now, .inl (cI, 10, .inl z49.2.2.2.2.1)), (h_m_kept, .inl (cI, 16, .inl z49.2.2.2.2.2))]) hc m_X6_180 (c_X6_does l D cI cS X F h_m h_m_s h_m_past h_m_held h_m_text h_m_now h_m_kept u11 (1 : Int32) m_typed z39.2.1 u6 u7 u8 z39.2.2.1 z39.2.2.2 u5 u4 m_held m_text u3 u2 z30 u12 hu50) 0 [0, 1, 2, 3, 4, 5, 6] rfl rfl (rmok_of (Nat.le_of_ble_eq_true rfl)) ⟨Nat.zero_le _, Nat.zero_le _⟩ rfl rfl rfl rfl rfl ⟨rfl, rfl, rfl⟩ dX6_plays_154 ?_
                    refine G_puti (ws' := [(h_m, .inr (6, [.ref h_m_s, .ref h_m_past, .ref h_m_held, .int z49.2.1, .int (1 : Int32), .ref h_m_text, .int m_typed, .ref h_m_now, .ref h_m_kept, .int z39.2.1, .int u6, .int z49.1, .int u8, .int z39.2.2.1, .int z39.2.2.2])), (h_m_s, .inl (cI, 116, .inl z49.2.2.1)), (h_m_past, .inl (cI, 464, .inl z49.2.2.2.1)), (h_m_held, .inl (cI, 116, .inl m_held)), (h_m_text, .inl (cI, 60, .inl m_text)), (h_m_now, .inl (cI, 10, .inl z49.2.2.2.2.1)), (h_m_kept, .inl (cI, 16, .inl z49.2.2.2.2.2))]) hc f_X6_171 p_X6_11 0 rfl rfl rfl dX6_plays_157 ?_
                    refine G_aload_n hc dX6_plays_160 rfl ?_
                    refine G_aload_n hc dX6_plays_161 rfl ?_
                    refine G_get hc f_X6_171 0 rfl rfl dX6_plays_162 ?_
                    obtain ⟨t51, hr53, h⟩ := ob h
                    have hj52 : G p l e (rmk 8) s m [.ref h_m].toArray below meth c D A 3 0 0 (QI below [.ref h_m].toArray s D A (PoI res.1 [(h_m, .inr (6, [.ref h_m_s, .ref h_m_past, .ref h_m_held, .int res.2.1, .int res.2.2.1, .ref h_m_text, .int m_typed, .ref h_m_now, .ref h_m_kept, .int res.2.2.2.1, .int res.2.2.2.2.1, .int res.2.2.2.2.2.1, .int res.2.2.2.2.2.2.1, .int res.2.2.2.2.2.2.2.1, .int res.2.2.2.2.2.2.2.2.1])), (h_m_s, .inl (cI, 116, .inl res.2.2.2.2.2.2.2.2.2.1)), (h_m_past, .inl (cI, 464, .inl res.2.2.2.2.2.2.2.2.2.2.1)), (h_m_held, .inl (cI, 116, .inl m_held)), (h_m_text, .inl (cI, 60, .inl m_text)), (h_m_now, .inl (cI, 10, .inl res.2.2.2.2.2.2.2.2.2.2.2.1)), (h_m_kept, .inl (cI, 16, .inl res.2.2.2.2.2.2.2.2.2.2.2.2))])) [(h_m, .inr (6, [.ref h_m_s, .ref h_m_past, .ref h_m_held, .int z49.2.1, .int (1 : Int32), .ref h_m_text, .int m_typed, .ref h_m_now, .ref h_m_kept, .int z39.2.1, .int u6, .int z49.1, .int u8, .int z39.2.2.1, .int z39.2.2.2])), (h_m_s, .inl (cI, 116, .inl z49.2.2.1)), (h_m_past, .inl (cI, 464, .inl z49.2.2.2.1)), (h_m_held, .inl (cI, 116, .inl m_held)), (h_m_text, .inl (cI, 60, .inl m_text)), (h_m_now, .inl (cI, 10, .inl z49.2.2.2.2.1)), (h_m_kept, .inl (cI, 16, .inl z49.2.2.2.2.2))] [(0, .ref h_m), (1, .int u12)] 173 [.int t51, .ref h_m] := by
                      refine G_puti (ws' := [(h_m, .inr (6, [.ref h_m_s, .ref h_m_past, .ref h_m_held, .int z49.2.1, .int (1 : Int32), .ref h_m_text, .int m_typed, .ref h_m_now, .ref h_m_kept, .int z39.2.1, .int t51, .int z49.1, .int u8, .int z39.2.2.1, .int z39.2.2.2])), (h_m_s, .inl (cI, 116, .inl z49.2.2.1)), (h_m_past, .inl (cI, 464, .inl z49.2.2.2.1)), (h_m_held, .inl (cI, 116, .inl m_held)), (h_m_text, .inl (cI, 60, .inl m_text)), (h_m_now, .inl (cI, 10, .inl z49.2.2.2.2.1)), (h_m_kept, .inl (cI, 16, .inl z49.2.2.2.2.2))]) hc f_X6_168 p_X6_10 0 rfl rfl rfl dX6_plays_173 ?_
                      refine G_aload_n hc dX6_plays_176 rfl ?_
                      refine G_dup hc dX6_plays_177 rfl ?_
                      refine G_get hc f_X6_165 0 rfl rfl dX6_plays_178 ?_
                      refine G_iconst (v := 1) hc dX6_plays_181 (by decide) ?_
                      refine G_iadd hc dX6_plays_182 ?_
                      obtain ⟨v55, e_v55, h⟩ := sb h
                      refine G_top e_v55 ?_
                      refine G_puti (ws' := [(h_m, .inr (6, [.ref h_m_s, .ref h_m_past, .ref h_m_held, .int z49.2.1, .int (1 : Int32), .ref h_m_text, .int m_typed, .ref h_m_now, .ref h_m_kept, .int z39.2.1, .int t51, .int z49.1, .int v55, .int z39.2.2.1, .int z39.2.2.2])), (h_m_s, .inl (cI, 116, .inl z49.2.2.1)), (h_m_past, .inl (cI, 464, .inl z49.2.2.2.1)), (h_m_held, .inl (cI, 116, .inl m_held)), (h_m_text, .inl (cI, 60, .inl m_text)), (h_m_now, .inl (cI, 10, .inl z49.2.2.2.2.1)), (h_m_kept, .inl (cI, 16, .inl z49.2.2.2.2.2))]) hc f_X6_165 p_X6_12 0 rfl rfl rfl dX6_plays_183 ?_
                      have h := Option.some.inj h
                      subst h
                      refine G_lv (lv' := [(0, .ref h_m), (1, .int u12)]) (lsame_cons rfl (lsame_cons rfl lsame_nil)) ?_
                      exact hj33
                    clear h
                    have h := hr53
                    clear hr53
                    refine G_if_le (tgt := 172) hc dX6_plays_165 (by decide) (fun c54 => ?_) (fun c54 => ?_)
                    · have h := ip h c54
                      refine G_iconst (v := 0) hc dX6_plays_172 (by decide) ?_
                      have h := Option.some.inj h
                      subst h
                      refine G_lv (lv' := [(0, .ref h_m), (1, .int u12)]) (lsame_cons rfl (lsame_cons rfl lsame_nil)) ?_
                      exact hj52
                    · have h := inn h c54
                      refine G_iconst (v := 3) hc dX6_plays_168 (by decide) ?_
                      refine G_goto (tgt := 173) hc dX6_plays_169 (by decide) ?_
                      have h := Option.some.inj h
                      subst h
                      refine G_lv (lv' := [(0, .ref h_m), (1, .int u12)]) (lsame_cons rfl (lsame_cons rfl lsame_nil)) ?_
                      exact hj52
                  · have h := ip h c64
                    refine G_aload_n hc dX6_plays_128 rfl ?_
                    refine G_get hc f_X6_135 0 rfl rfl dX6_plays_129 ?_
                    refine G_iconst (v := 3) hc dX6_plays_132 (by decide) ?_
                    refine G_icmp_le (tgt := 150) hc dX6_plays_133 (by decide) (fun c63 => ?_) (fun c63 => ?_)
                    · have h := ip h c63
                      refine G_aload_n hc dX6_plays_150 rfl ?_
                      refine G_aload_n hc dX6_plays_151 rfl ?_
                      refine G_iload_n hc dX6_plays_152 rfl ?_
                      refine G_iload_n hc dX6_plays_153 rfl ?_
                      obtain ⟨z56, hu57, h⟩ := ob h
                      refine G_callVI (ws2 := [(h_m, .inr (6, [.ref h_m_s, .ref h_m_past, .ref h_m_held, .int z56.2.1, .int (1 : Int32), .ref h_m_text, .int m_typed, .ref h_m_now, .ref h_m_kept, .int z39.2.1, .int u6, .int u7, .int u8, .int z39.2.2.1, .int z39.2.2.2])), (h_m_s, .inl (cI, 116, .inl z56.2.2.1)), (h_m_past, .inl (cI, 464, .inl z56.2.2.2.1)), (h_m_held, .inl (cI, 116, .inl m_held)), (h_m_text, .inl (cI, 60, .inl m_text)), (h_m_now, .inl (cI, 10, .inl z56.2.2.2.2.1)), (h_m_kept, .inl (cI, 16, .inl z56.2.2.2.2.2))]) hc m_X6_180 (c_X6_does l D cI cS X F h_m h_m_s h_m_past h_m_held h_m_text h_m_now h_m_kept u11 (1 : Int32) m_typed z39.2.1 u6 u7 u8 z39.2.2.1 z39.2.2.2 u5 u4 m_held m_text u3 u2 z30 u12 hu57) 0 [0, 1, 2, 3, 4, 5, 6] rfl rfl (rmok_of (Nat.le_of_ble_eq_true rfl)) ⟨Nat.zero_le _, Nat.zero_le _⟩ rfl rfl rfl rfl rfl ⟨rfl, rfl, rfl⟩ dX6_plays_154 ?_
                      refine G_puti (ws' := [(h_m, .inr (6, [.ref h_m_s, .ref h_m_past, .ref h_m_held, .int z56.2.1, .int (1 : Int32), .ref h_m_text, .int m_typed, .ref h_m_now, .ref h_m_kept, .int z39.2.1, .int u6, .int z56.1, .int u8, .int z39.2.2.1, .int z39.2.2.2])), (h_m_s, .inl (cI, 116, .inl z56.2.2.1)), (h_m_past, .inl (cI, 464, .inl z56.2.2.2.1)), (h_m_held, .inl (cI, 116, .inl m_held)), (h_m_text, .inl (cI, 60, .inl m_text)), (h_m_now, .inl (cI, 10, .inl z56.2.2.2.2.1)), (h_m_kept, .inl (cI, 16, .inl z56.2.2.2.2.2))]) hc f_X6_171 p_X6_11 0 rfl rfl rfl dX6_plays_157 ?_
                      refine G_aload_n hc dX6_plays_160 rfl ?_
                      refine G_aload_n hc dX6_plays_161 rfl ?_
                      refine G_get hc f_X6_171 0 rfl rfl dX6_plays_162 ?_
                      obtain ⟨t58, hr60, h⟩ := ob h
                      have hj59 : G p l e (rmk 8) s m [.ref h_m].toArray below meth c D A 3 0 0 (QI below [.ref h_m].toArray s D A (PoI res.1 [(h_m, .inr (6, [.ref h_m_s, .ref h_m_past, .ref h_m_held, .int res.2.1, .int res.2.2.1, .ref h_m_text, .int m_typed, .ref h_m_now, .ref h_m_kept, .int res.2.2.2.1, .int res.2.2.2.2.1, .int res.2.2.2.2.2.1, .int res.2.2.2.2.2.2.1, .int res.2.2.2.2.2.2.2.1, .int res.2.2.2.2.2.2.2.2.1])), (h_m_s, .inl (cI, 116, .inl res.2.2.2.2.2.2.2.2.2.1)), (h_m_past, .inl (cI, 464, .inl res.2.2.2.2.2.2.2.2.2.2.1)), (h_m_held, .inl (cI, 116, .inl m_held)), (h_m_text, .inl (cI, 60, .inl m_text)), (h_m_now, .inl (cI, 10, .inl res.2.2.2.2.2.2.2.2.2.2.2.1)), (h_m_kept, .inl (cI, 16, .inl res.2.2.2.2.2.2.2.2.2.2.2.2))])) [(h_m, .inr (6, [.ref h_m_s, .ref h_m_past, .ref h_m_held, .int z56.2.1, .int (1 : Int32), .ref h_m_text, .int m_typed, .ref h_m_now, .ref h_m_kept, .int z39.2.1, .int u6, .int z56.1, .int u8, .int z39.2.2.1, .int z39.2.2.2])), (h_m_s, .inl (cI, 116, .inl z56.2.2.1)), (h_m_past, .inl (cI, 464, .inl z56.2.2.2.1)), (h_m_held, .inl (cI, 116, .inl m_held)), (h_m_text, .inl (cI, 60, .inl m_text)), (h_m_now, .inl (cI, 10, .inl z56.2.2.2.2.1)), (h_m_kept, .inl (cI, 16, .inl z56.2.2.2.2.2))] [(0, .ref h_m), (1, .int u12)] 173 [.int t58, .ref h_m] := by
                        refine G_puti (ws' := [(h_m, .inr (6, [.ref h_m_s, .ref h_m_past, .ref h_m_held, .int z56.2.1, .int (1 : Int32), .ref h_m_text, .int m_typed, .ref h_m_now, .ref h_m_kept, .int z39.2.1, .int t58, .int z56.1, .int u8, .int z39.2.2.1, .int z39.2.2.2])), (h_m_s, .inl (cI, 116, .inl z56.2.2.1)), (h_m_past, .inl (cI, 464, .inl z56.2.2.2.1)), (h_m_held, .inl (cI, 116, .inl m_held)), (h_m_text, .inl (cI, 60, .inl m_text)), (h_m_now, .inl (cI, 10, .inl z56.2.2.2.2.1)), (h_m_kept, .inl (cI, 16, .inl z56.2.2.2.2.2))]) hc f_X6_168 p_X6_10 0 rfl rfl rfl dX6_plays_173 ?_
                        refine G_aload_n hc dX6_plays_176 rfl ?_
                        refine G_dup hc dX6_plays_177 rfl ?_
                        refine G_get hc f_X6_165 0 rfl rfl dX6_plays_178 ?_
                        refine G_iconst (v := 1) hc dX6_plays_181 (by decide) ?_
                        refine G_iadd hc dX6_plays_182 ?_
                        obtain ⟨v62, e_v62, h⟩ := sb h
                        refine G_top e_v62 ?_
                        refine G_puti (ws' := [(h_m, .inr (6, [.ref h_m_s, .ref h_m_past, .ref h_m_held, .int z56.2.1, .int (1 : Int32), .ref h_m_text, .int m_typed, .ref h_m_now, .ref h_m_kept, .int z39.2.1, .int t58, .int z56.1, .int v62, .int z39.2.2.1, .int z39.2.2.2])), (h_m_s, .inl (cI, 116, .inl z56.2.2.1)), (h_m_past, .inl (cI, 464, .inl z56.2.2.2.1)), (h_m_held, .inl (cI, 116, .inl m_held)), (h_m_text, .inl (cI, 60, .inl m_text)), (h_m_now, .inl (cI, 10, .inl z56.2.2.2.2.1)), (h_m_kept, .inl (cI, 16, .inl z56.2.2.2.2.2))]) hc f_X6_165 p_X6_12 0 rfl rfl rfl dX6_plays_183 ?_
                        have h := Option.some.inj h
                        subst h
                        refine G_lv (lv' := [(0, .ref h_m), (1, .int u12)]) (lsame_cons rfl (lsame_cons rfl lsame_nil)) ?_
                        exact hj33
                      clear h
                      have h := hr60
                      clear hr60
                      refine G_if_le (tgt := 172) hc dX6_plays_165 (by decide) (fun c61 => ?_) (fun c61 => ?_)
                      · have h := ip h c61
                        refine G_iconst (v := 0) hc dX6_plays_172 (by decide) ?_
                        have h := Option.some.inj h
                        subst h
                        refine G_lv (lv' := [(0, .ref h_m), (1, .int u12)]) (lsame_cons rfl (lsame_cons rfl lsame_nil)) ?_
                        exact hj59
                      · have h := inn h c61
                        refine G_iconst (v := 3) hc dX6_plays_168 (by decide) ?_
                        refine G_goto (tgt := 173) hc dX6_plays_169 (by decide) ?_
                        have h := Option.some.inj h
                        subst h
                        refine G_lv (lv' := [(0, .ref h_m), (1, .int u12)]) (lsame_cons rfl (lsame_cons rfl lsame_nil)) ?_
                        exact hj59
                    · have h := inn h c63
                      refine G_aload_n hc dX6_plays_136 rfl ?_
                      refine G_iconst (v := 2) hc dX6_plays_137 (by decide) ?_
                      refine G_puti (ws' := [(h_m, .inr (6, [.ref h_m_s, .ref h_m_past, .ref h_m_held, .int u11, .int (1 : Int32), .ref h_m_text, .int m_typed, .ref h_m_now, .ref h_m_kept, .int z39.2.1, .int (2 : Int32), .int u7, .int u8, .int z39.2.2.1, .int z39.2.2.2])), (h_m_s, .inl (cI, 116, .inl u5)), (h_m_past, .inl (cI, 464, .inl u4)), (h_m_held, .inl (cI, 116, .inl m_held)), (h_m_text, .inl (cI, 60, .inl m_text)), (h_m_now, .inl (cI, 10, .inl u3)), (h_m_kept, .inl (cI, 16, .inl u2))]) hc f_X6_168 p_X6_10 0 rfl rfl rfl dX6_plays_138 ?_
                      refine G_aload_n hc dX6_plays_141 rfl ?_
                      refine G_ldc (v := -1000004) hc k_X6_50 dX6_plays_142 ?_
                      refine G_puti (ws' := [(h_m, .inr (6, [.ref h_m_s, .ref h_m_past, .ref h_m_held, .int u11, .int (1 : Int32), .ref h_m_text, .int m_typed, .ref h_m_now, .ref h_m_kept, .int z39.2.1, .int (2 : Int32), .int (-1000004 : Int32), .int u8, .int z39.2.2.1, .int z39.2.2.2])), (h_m_s, .inl (cI, 116, .inl u5)), (h_m_past, .inl (cI, 464, .inl u4)), (h_m_held, .inl (cI, 116, .inl m_held)), (h_m_text, .inl (cI, 60, .inl m_text)), (h_m_now, .inl (cI, 10, .inl u3)), (h_m_kept, .inl (cI, 16, .inl u2))]) hc f_X6_171 p_X6_11 0 rfl rfl rfl dX6_plays_144 ?_
                      refine G_goto (tgt := 186) hc dX6_plays_147 (by decide) ?_
                      have h := Option.some.inj h
                      subst h
                      refine G_lv (lv' := [(0, .ref h_m), (1, .int u12)]) (lsame_cons rfl (lsame_cons rfl lsame_nil)) ?_
                      exact hj33
              · have h := ip h c70
                refine G_aload_n hc dX6_plays_92 rfl ?_
                refine G_iconst (v := 1) hc dX6_plays_93 (by decide) ?_
                refine G_puti (ws' := [(h_m, .inr (6, [.ref h_m_s, .ref h_m_past, .ref h_m_held, .int u11, .int (1 : Int32), .ref h_m_text, .int m_typed, .ref h_m_now, .ref h_m_kept, .int z39.2.1, .int (1 : Int32), .int u7, .int u8, .int z39.2.2.1, .int z39.2.2.2])), (h_m_s, .inl (cI, 116, .inl u5)), (h_m_past, .inl (cI, 464, .inl u4)), (h_m_held, .inl (cI, 116, .inl m_held)), (h_m_text, .inl (cI, 60, .inl m_text)), (h_m_now, .inl (cI, 10, .inl u3)), (h_m_kept, .inl (cI, 16, .inl u2))]) hc f_X6_168 p_X6_10 0 rfl rfl rfl dX6_plays_94 ?_
                refine G_aload_n hc dX6_plays_97 rfl ?_
                refine G_iload_n hc dX6_plays_98 rfl ?_
                obtain ⟨t66, hr68, h⟩ := ob h
                have hj67 : G p l e (rmk 8) s m [.ref h_m].toArray below meth c D A 3 0 0 (QI below [.ref h_m].toArray s D A (PoI res.1 [(h_m, .inr (6, [.ref h_m_s, .ref h_m_past, .ref h_m_held, .int res.2.1, .int res.2.2.1, .ref h_m_text, .int m_typed, .ref h_m_now, .ref h_m_kept, .int res.2.2.2.1, .int res.2.2.2.2.1, .int res.2.2.2.2.2.1, .int res.2.2.2.2.2.2.1, .int res.2.2.2.2.2.2.2.1, .int res.2.2.2.2.2.2.2.2.1])), (h_m_s, .inl (cI, 116, .inl res.2.2.2.2.2.2.2.2.2.1)), (h_m_past, .inl (cI, 464, .inl res.2.2.2.2.2.2.2.2.2.2.1)), (h_m_held, .inl (cI, 116, .inl m_held)), (h_m_text, .inl (cI, 60, .inl m_text)), (h_m_now, .inl (cI, 10, .inl res.2.2.2.2.2.2.2.2.2.2.2.1)), (h_m_kept, .inl (cI, 16, .inl res.2.2.2.2.2.2.2.2.2.2.2.2))])) [(h_m, .inr (6, [.ref h_m_s, .ref h_m_past, .ref h_m_held, .int u11, .int (1 : Int32), .ref h_m_text, .int m_typed, .ref h_m_now, .ref h_m_kept, .int z39.2.1, .int (1 : Int32), .int u7, .int u8, .int z39.2.2.1, .int z39.2.2.2])), (h_m_s, .inl (cI, 116, .inl u5)), (h_m_past, .inl (cI, 464, .inl u4)), (h_m_held, .inl (cI, 116, .inl m_held)), (h_m_text, .inl (cI, 60, .inl m_text)), (h_m_now, .inl (cI, 10, .inl u3)), (h_m_kept, .inl (cI, 16, .inl u2))] [(0, .ref h_m), (1, .int u12)] 112 [.int t66, .ref h_m] := by
                  refine G_puti (ws' := [(h_m, .inr (6, [.ref h_m_s, .ref h_m_past, .ref h_m_held, .int u11, .int (1 : Int32), .ref h_m_text, .int m_typed, .ref h_m_now, .ref h_m_kept, .int z39.2.1, .int (1 : Int32), .int t66, .int u8, .int z39.2.2.1, .int z39.2.2.2])), (h_m_s, .inl (cI, 116, .inl u5)), (h_m_past, .inl (cI, 464, .inl u4)), (h_m_held, .inl (cI, 116, .inl m_held)), (h_m_text, .inl (cI, 60, .inl m_text)), (h_m_now, .inl (cI, 10, .inl u3)), (h_m_kept, .inl (cI, 16, .inl u2))]) hc f_X6_171 p_X6_11 0 rfl rfl rfl dX6_plays_112 ?_
                  refine G_goto (tgt := 186) hc dX6_plays_115 (by decide) ?_
                  have h := Option.some.inj h
                  subst h
                  refine G_lv (lv' := [(0, .ref h_m), (1, .int u12)]) (lsame_cons rfl (lsame_cons rfl lsame_nil)) ?_
                  exact hj33
                clear h
                have h := hr68
                clear hr68
                refine G_if_ge (tgt := 106) hc dX6_plays_99 (by decide) (fun c69 => ?_) (fun c69 => ?_)
                · have h := ip h c69
                  refine G_aload_n hc dX6_plays_106 rfl ?_
                  refine G_get hc f_X6_122 0 rfl rfl dX6_plays_107 ?_
                  refine G_iload_n hc dX6_plays_110 rfl ?_
                  refine G_isub hc dX6_plays_111 ?_
                  have h := Option.some.inj h
                  subst h
                  refine G_lv (lv' := [(0, .ref h_m), (1, .int u12)]) (lsame_cons rfl (lsame_cons rfl lsame_nil)) ?_
                  exact hj67
                · have h := inn h c69
                  refine G_iconst (v := 0) hc dX6_plays_102 (by decide) ?_
                  refine G_goto (tgt := 112) hc dX6_plays_103 (by decide) ?_
                  have h := Option.some.inj h
                  subst h
                  refine G_lv (lv' := [(0, .ref h_m), (1, .int u12)]) (lsame_cons rfl (lsame_cons rfl lsame_nil)) ?_
                  exact hj67
          clear h
          have hL22 : ∀ (n23 : Nat) (u19 : Int32), f_X6_plays_L50 F m_typed m_text n23 u19 = some e20 → G p l e (rmk 8) s m [.ref h_m].toArray below meth c D A 3 0 0 (QI below [.ref h_m].toArray s D A (PoI res.1 [(h_m, .inr (6, [.ref h_m_s, .ref h_m_past, .ref h_m_held, .int res.2.1, .int res.2.2.1, .ref h_m_text, .int m_typed, .ref h_m_now, .ref h_m_kept, .int res.2.2.2.1, .int res.2.2.2.2.1, .int res.2.2.2.2.2.1, .int res.2.2.2.2.2.2.1, .int res.2.2.2.2.2.2.2.1, .int res.2.2.2.2.2.2.2.2.1])), (h_m_s, .inl (cI, 116, .inl res.2.2.2.2.2.2.2.2.2.1)), (h_m_past, .inl (cI, 464, .inl res.2.2.2.2.2.2.2.2.2.2.1)), (h_m_held, .inl (cI, 116, .inl m_held)), (h_m_text, .inl (cI, 60, .inl m_text)), (h_m_now, .inl (cI, 10, .inl res.2.2.2.2.2.2.2.2.2.2.2.1)), (h_m_kept, .inl (cI, 16, .inl res.2.2.2.2.2.2.2.2.2.2.2.2))])) [(h_m, .inr (6, [.ref h_m_s, .ref h_m_past, .ref h_m_held, .int u11, .int (1 : Int32), .ref h_m_text, .int m_typed, .ref h_m_now, .ref h_m_kept, .int u19, .int u6, .int u7, .int u8, .int u9, .int u10])), (h_m_s, .inl (cI, 116, .inl u5)), (h_m_past, .inl (cI, 464, .inl u4)), (h_m_held, .inl (cI, 116, .inl m_held)), (h_m_text, .inl (cI, 60, .inl m_text)), (h_m_now, .inl (cI, 10, .inl u3)), (h_m_kept, .inl (cI, 16, .inl u2))] [(0, .ref h_m), (1, .int u12)] 50 [] := by
            intro n23
            induction n23 with
            | zero =>
              intro u19 h
              exact nz h
            | succ n23 ih24 =>
              intro u19 h
              rw [f_X6_plays_L50] at h
              refine G_aload_n hc dX6_plays_50 rfl ?_
              refine G_bipush (v := 97) hc dX6_plays_51 (by decide) ?_
              refine G_bipush (v := 122) hc dX6_plays_53 (by decide) ?_
              obtain ⟨z26, hu27, h⟩ := ob h
              refine G_callVI (ws2 := [(h_m, .inr (6, [.ref h_m_s, .ref h_m_past, .ref h_m_held, .int u11, .int (1 : Int32), .ref h_m_text, .int m_typed, .ref h_m_now, .ref h_m_kept, .int u19, .int u6, .int u7, .int u8, .int u9, .int u10])), (h_m_s, .inl (cI, 116, .inl u5)), (h_m_past, .inl (cI, 464, .inl u4)), (h_m_held, .inl (cI, 116, .inl m_held)), (h_m_text, .inl (cI, 60, .inl m_text)), (h_m_now, .inl (cI, 10, .inl u3)), (h_m_kept, .inl (cI, 16, .inl u2))]) hc m_X6_129 (c_X6_isAt l D cI cS X F h_m h_m_s h_m_past h_m_held h_m_text h_m_now h_m_kept u11 (1 : Int32) m_typed u19 u6 u7 u8 u9 u10 u5 u4 m_held m_text u3 u2 (97 : Int32) (122 : Int32) hu27) 0 [0, 1, 2, 3, 4, 5, 6] rfl rfl (rmok_of (Nat.le_of_ble_eq_true rfl)) ⟨Nat.zero_le _, Nat.zero_le _⟩ rfl rfl rfl rfl rfl ⟨rfl, rfl, rfl⟩ dX6_plays_55 ?_
              refine G_if_eq (tgt := 74) hc dX6_plays_58 (by decide) (fun c29 => ?_) (fun c29 => ?_)
              · have h := ip h c29
                have h := Option.some.inj h
                subst h
                refine G_lv (lv' := [(0, .ref h_m), (1, .int u12)]) (lsame_cons rfl (lsame_cons rfl lsame_nil)) ?_
                exact hK25
              · have h := inn h c29
                refine G_aload_n hc dX6_plays_61 rfl ?_
                refine G_dup hc dX6_plays_62 rfl ?_
                refine G_get hc f_X6_122 0 rfl rfl dX6_plays_63 ?_
                refine G_iconst (v := 1) hc dX6_plays_66 (by decide) ?_
                refine G_iadd hc dX6_plays_67 ?_
                obtain ⟨v28, e_v28, h⟩ := sb h
                refine G_top e_v28 ?_
                refine G_puti (ws' := [(h_m, .inr (6, [.ref h_m_s, .ref h_m_past, .ref h_m_held, .int u11, .int (1 : Int32), .ref h_m_text, .int m_typed, .ref h_m_now, .ref h_m_kept, .int v28, .int u6, .int u7, .int u8, .int u9, .int u10])), (h_m_s, .inl (cI, 116, .inl u5)), (h_m_past, .inl (cI, 464, .inl u4)), (h_m_held, .inl (cI, 116, .inl m_held)), (h_m_text, .inl (cI, 60, .inl m_text)), (h_m_now, .inl (cI, 10, .inl u3)), (h_m_kept, .inl (cI, 16, .inl u2))]) hc f_X6_122 p_X6_9 0 rfl rfl rfl dX6_plays_68 ?_
                refine G_goto (tgt := 50) hc dX6_plays_71 (by decide) ?_
                refine G_lv (lv' := [(0, .ref h_m), (1, .int u12)]) (lsame_cons rfl (lsame_cons rfl lsame_nil)) ?_
                exact ih24 _ h
          refine G_lv (lv' := [(0, .ref h_m), (1, .int u12)]) (lsame_cons rfl (lsame_cons rfl lsame_nil)) ?_
          exact hL22 F _ hl21
  refine G_lv (lv' := [(0, .ref h_m), (1, .int (0 : Int32))]) (lsame_cons rfl (lsame_cons rfl lsame_nil)) ?_
  exact hL15 F _ _ _ _ _ _ _ _ _ _ _ _ hl14
set_option maxHeartbeats 4000000 in
set_option maxRecDepth 100000 in
theorem c_X6_copies_m_s_m_held (l : Launch) (D : va_G) (cI cS : ClassId) (X : XP) (F : Nat) (h_m h_m_s h_m_past h_m_held h_m_text h_m_now h_m_kept : Nat) (m_pasts : Int32) (m_runs0 : Int32) (m_typed : Int32) (m_spot : Int32) (m_reason : Int32) (m_cause : Int32) (m_orders : Int32) (m_kindNow : Int32) (m_placeNow : Int32) (m_s : Nat → Int32) (m_past : Nat → Int32) (m_held : Nat → Int32) (m_text : Nat → Int32) (m_now : Nat → Int32) (m_kept : Nat → Int32) {res : (Nat → Int32)} (h : f_X6_copies_m_s_m_held F m_s m_held = some res) : CtV l D cI cS X yX6_copies cX6_copies 4 1 [.ref h_m, .ref h_m_s, .ref h_m_held] [(h_m, .inr (6, [.ref h_m_s, .ref h_m_past, .ref h_m_held, .int m_pasts, .int m_runs0, .ref h_m_text, .int m_typed, .ref h_m_now, .ref h_m_kept, .int m_spot, .int m_reason, .int m_cause, .int m_orders, .int m_kindNow, .int m_placeNow])), (h_m_s, .inl (cI, 116, .inl m_s)), (h_m_past, .inl (cI, 464, .inl m_past)), (h_m_held, .inl (cI, 116, .inl m_held)), (h_m_text, .inl (cI, 60, .inl m_text)), (h_m_now, .inl (cI, 10, .inl m_now)), (h_m_kept, .inl (cI, 16, .inl m_kept))] (PoV [(h_m, .inr (6, [.ref h_m_s, .ref h_m_past, .ref h_m_held, .int m_pasts, .int m_runs0, .ref h_m_text, .int m_typed, .ref h_m_now, .ref h_m_kept, .int m_spot, .int m_reason, .int m_cause, .int m_orders, .int m_kindNow, .int m_placeNow])), (h_m_s, .inl (cI, 116, .inl m_s)), (h_m_past, .inl (cI, 464, .inl m_past)), (h_m_held, .inl (cI, 116, .inl res)), (h_m_text, .inl (cI, 60, .inl m_text)), (h_m_now, .inl (cI, 10, .inl m_now)), (h_m_kept, .inl (cI, 16, .inl m_kept))]) := by
  refine CtV.of (by decide +kernel) rfl ?_
  intro p e s m below meth c A hc
  refine G_lv (lv' := [(0, .ref h_m), (1, .ref h_m_s), (2, .ref h_m_held)]) (lsame_cons rfl (lsame_cons rfl (lsame_cons rfl lsame_nil))) ?_
  unfold f_X6_copies_m_s_m_held at h
  refine G_iconst (v := 0) hc dX6_copies_0 (by decide) ?_
  refine G_istore_n (lv' := [(0, .ref h_m), (1, .ref h_m_s), (2, .ref h_m_held), (3, .int (0 : Int32))]) hc dX6_copies_1 rfl rfl ?_
  obtain ⟨e3, hl4, h⟩ := ob h
  have hK8 : G p l e (rmk 1) s m [.ref h_m, .ref h_m_s, .ref h_m_held].toArray below meth c D A 4 0 0 (QV below [.ref h_m, .ref h_m_s, .ref h_m_held].toArray s D A (PoV [(h_m, .inr (6, [.ref h_m_s, .ref h_m_past, .ref h_m_held, .int m_pasts, .int m_runs0, .ref h_m_text, .int m_typed, .ref h_m_now, .ref h_m_kept, .int m_spot, .int m_reason, .int m_cause, .int m_orders, .int m_kindNow, .int m_placeNow])), (h_m_s, .inl (cI, 116, .inl m_s)), (h_m_past, .inl (cI, 464, .inl m_past)), (h_m_held, .inl (cI, 116, .inl res)), (h_m_text, .inl (cI, 60, .inl m_text)), (h_m_now, .inl (cI, 10, .inl m_now)), (h_m_kept, .inl (cI, 16, .inl m_kept))])) [(h_m, .inr (6, [.ref h_m_s, .ref h_m_past, .ref h_m_held, .int m_pasts, .int m_runs0, .ref h_m_text, .int m_typed, .ref h_m_now, .ref h_m_kept, .int m_spot, .int m_reason, .int m_cause, .int m_orders, .int m_kindNow, .int m_placeNow])), (h_m_s, .inl (cI, 116, .inl m_s)), (h_m_past, .inl (cI, 464, .inl m_past)), (h_m_held, .inl (cI, 116, .inl e3)), (h_m_text, .inl (cI, 60, .inl m_text)), (h_m_now, .inl (cI, 10, .inl m_now)), (h_m_kept, .inl (cI, 16, .inl m_kept))] [] 20 [] := by
    have h := Option.some.inj h
    subst h
    exact G_return hc rfl dX6_copies_20
  clear h
  have hL5 : ∀ (n6 : Nat) (u1 : Int32) (u2 : Nat → Int32), f_X6_copies_m_s_m_held_L2 F m_s n6 u1 u2 = some e3 → G p l e (rmk 1) s m [.ref h_m, .ref h_m_s, .ref h_m_held].toArray below meth c D A 4 0 0 (QV below [.ref h_m, .ref h_m_s, .ref h_m_held].toArray s D A (PoV [(h_m, .inr (6, [.ref h_m_s, .ref h_m_past, .ref h_m_held, .int m_pasts, .int m_runs0, .ref h_m_text, .int m_typed, .ref h_m_now, .ref h_m_kept, .int m_spot, .int m_reason, .int m_cause, .int m_orders, .int m_kindNow, .int m_placeNow])), (h_m_s, .inl (cI, 116, .inl m_s)), (h_m_past, .inl (cI, 464, .inl m_past)), (h_m_held, .inl (cI, 116, .inl res)), (h_m_text, .inl (cI, 60, .inl m_text)), (h_m_now, .inl (cI, 10, .inl m_now)), (h_m_kept, .inl (cI, 16, .inl m_kept))])) [(h_m, .inr (6, [.ref h_m_s, .ref h_m_past, .ref h_m_held, .int m_pasts, .int m_runs0, .ref h_m_text, .int m_typed, .ref h_m_now, .ref h_m_kept, .int m_spot, .int m_reason, .int m_cause, .int m_orders, .int m_kindNow, .int m_placeNow])), (h_m_s, .inl (cI, 116, .inl m_s)), (h_m_past, .inl (cI, 464, .inl m_past)), (h_m_held, .inl (cI, 116, .inl u2)), (h_m_text, .inl (cI, 60, .inl m_text)), (h_m_now, .inl (cI, 10, .inl m_now)), (h_m_kept, .inl (cI, 16, .inl m_kept))] [(1, .ref h_m_s), (2, .ref h_m_held), (3, .int u1)] 2 [] := by
    intro n6
    induction n6 with
    | zero =>
      intro u1 u2 h
      exact nz h
    | succ n6 ih7 =>
      intro u1 u2 h
      rw [f_X6_copies_m_s_m_held_L2] at h
      refine G_iload_n hc dX6_copies_2 rfl ?_
      refine G_bipush (v := 116) hc dX6_copies_3 (by decide) ?_
      refine G_icmp_ge (tgt := 20) hc dX6_copies_5 (by decide) (fun c12 => ?_) (fun c12 => ?_)
      · have h := ip h c12
        have h := Option.some.inj h
        subst h
        refine G_lv (lv' := []) lsame_nil ?_
        exact hK8
      · have h := inn h c12
        refine G_aload_n hc dX6_copies_8 rfl ?_
        refine G_iload_n hc dX6_copies_9 rfl ?_
        refine G_aload_n hc dX6_copies_10 rfl ?_
        refine G_iload_n hc dX6_copies_11 rfl ?_
        obtain ⟨v9, i_v9, e_v9, h⟩ := rb h
        refine G_iald hc 1 rfl i_v9 e_v9 dX6_copies_12 ?_
        obtain ⟨v10, i_v10, e_v10, h⟩ := wb h
        refine G_iast (ws' := [(h_m, .inr (6, [.ref h_m_s, .ref h_m_past, .ref h_m_held, .int m_pasts, .int m_runs0, .ref h_m_text, .int m_typed, .ref h_m_now, .ref h_m_kept, .int m_spot, .int m_reason, .int m_cause, .int m_orders, .int m_kindNow, .int m_placeNow])), (h_m_s, .inl (cI, 116, .inl m_s)), (h_m_past, .inl (cI, 464, .inl m_past)), (h_m_held, .inl (cI, 116, .inl v10)), (h_m_text, .inl (cI, 60, .inl m_text)), (h_m_now, .inl (cI, 10, .inl m_now)), (h_m_kept, .inl (cI, 16, .inl m_kept))]) hc 3 rfl i_v10 e_v10 rfl dX6_copies_13 ?_
        obtain ⟨v11, e_v11, h⟩ := sb h
        refine G_iinc (v := v11) (lv' := [(1, .ref h_m_s), (2, .ref h_m_held), (3, .int v11)]) hc dX6_copies_14 rfl (e_v11.trans rfl) rfl rfl ?_
        refine G_goto (tgt := 2) hc dX6_copies_17 (by decide) ?_
        refine G_lv (lv' := [(1, .ref h_m_s), (2, .ref h_m_held), (3, .int v11)]) (lsame_cons rfl (lsame_cons rfl (lsame_cons rfl lsame_nil))) ?_
        exact ih7 _ _ h
  refine G_lv (lv' := [(1, .ref h_m_s), (2, .ref h_m_held), (3, .int (0 : Int32))]) (lsame_cons rfl (lsame_cons rfl (lsame_cons rfl lsame_nil))) ?_
  exact hL5 F _ _ hl4
set_option maxHeartbeats 4000000 in
set_option maxRecDepth 100000 in
theorem c_X6_copies_m_held_m_s (l : Launch) (D : va_G) (cI cS : ClassId) (X : XP) (F : Nat) (h_m h_m_s h_m_past h_m_held h_m_text h_m_now h_m_kept : Nat) (m_pasts : Int32) (m_runs0 : Int32) (m_typed : Int32) (m_spot : Int32) (m_reason : Int32) (m_cause : Int32) (m_orders : Int32) (m_kindNow : Int32) (m_placeNow : Int32) (m_s : Nat → Int32) (m_past : Nat → Int32) (m_held : Nat → Int32) (m_text : Nat → Int32) (m_now : Nat → Int32) (m_kept : Nat → Int32) {res : (Nat → Int32)} (h : f_X6_copies_m_held_m_s F m_s m_held = some res) : CtV l D cI cS X yX6_copies cX6_copies 4 1 [.ref h_m, .ref h_m_held, .ref h_m_s] [(h_m, .inr (6, [.ref h_m_s, .ref h_m_past, .ref h_m_held, .int m_pasts, .int m_runs0, .ref h_m_text, .int m_typed, .ref h_m_now, .ref h_m_kept, .int m_spot, .int m_reason, .int m_cause, .int m_orders, .int m_kindNow, .int m_placeNow])), (h_m_s, .inl (cI, 116, .inl m_s)), (h_m_past, .inl (cI, 464, .inl m_past)), (h_m_held, .inl (cI, 116, .inl m_held)), (h_m_text, .inl (cI, 60, .inl m_text)), (h_m_now, .inl (cI, 10, .inl m_now)), (h_m_kept, .inl (cI, 16, .inl m_kept))] (PoV [(h_m, .inr (6, [.ref h_m_s, .ref h_m_past, .ref h_m_held, .int m_pasts, .int m_runs0, .ref h_m_text, .int m_typed, .ref h_m_now, .ref h_m_kept, .int m_spot, .int m_reason, .int m_cause, .int m_orders, .int m_kindNow, .int m_placeNow])), (h_m_s, .inl (cI, 116, .inl res)), (h_m_past, .inl (cI, 464, .inl m_past)), (h_m_held, .inl (cI, 116, .inl m_held)), (h_m_text, .inl (cI, 60, .inl m_text)), (h_m_now, .inl (cI, 10, .inl m_now)), (h_m_kept, .inl (cI, 16, .inl m_kept))]) := by
  refine CtV.of (by decide +kernel) rfl ?_
  intro p e s m below meth c A hc
  refine G_lv (lv' := [(0, .ref h_m), (1, .ref h_m_held), (2, .ref h_m_s)]) (lsame_cons rfl (lsame_cons rfl (lsame_cons rfl lsame_nil))) ?_
  unfold f_X6_copies_m_held_m_s at h
  refine G_iconst (v := 0) hc dX6_copies_0 (by decide) ?_
  refine G_istore_n (lv' := [(0, .ref h_m), (1, .ref h_m_held), (2, .ref h_m_s), (3, .int (0 : Int32))]) hc dX6_copies_1 rfl rfl ?_
  obtain ⟨e3, hl4, h⟩ := ob h
  have hK8 : G p l e (rmk 1) s m [.ref h_m, .ref h_m_held, .ref h_m_s].toArray below meth c D A 4 0 0 (QV below [.ref h_m, .ref h_m_held, .ref h_m_s].toArray s D A (PoV [(h_m, .inr (6, [.ref h_m_s, .ref h_m_past, .ref h_m_held, .int m_pasts, .int m_runs0, .ref h_m_text, .int m_typed, .ref h_m_now, .ref h_m_kept, .int m_spot, .int m_reason, .int m_cause, .int m_orders, .int m_kindNow, .int m_placeNow])), (h_m_s, .inl (cI, 116, .inl res)), (h_m_past, .inl (cI, 464, .inl m_past)), (h_m_held, .inl (cI, 116, .inl m_held)), (h_m_text, .inl (cI, 60, .inl m_text)), (h_m_now, .inl (cI, 10, .inl m_now)), (h_m_kept, .inl (cI, 16, .inl m_kept))])) [(h_m, .inr (6, [.ref h_m_s, .ref h_m_past, .ref h_m_held, .int m_pasts, .int m_runs0, .ref h_m_text, .int m_typed, .ref h_m_now, .ref h_m_kept, .int m_spot, .int m_reason, .int m_cause, .int m_orders, .int m_kindNow, .int m_placeNow])), (h_m_s, .inl (cI, 116, .inl e3)), (h_m_past, .inl (cI, 464, .inl m_past)), (h_m_held, .inl (cI, 116, .inl m_held)), (h_m_text, .inl (cI, 60, .inl m_text)), (h_m_now, .inl (cI, 10, .inl m_now)), (h_m_kept, .inl (cI, 16, .inl m_kept))] [] 20 [] := by
    have h := Option.some.inj h
    subst h
    exact G_return hc rfl dX6_copies_20
  clear h
  have hL5 : ∀ (n6 : Nat) (u1 : Int32) (u2 : Nat → Int32), f_X6_copies_m_held_m_s_L2 F m_held n6 u1 u2 = some e3 → G p l e (rmk 1) s m [.ref h_m, .ref h_m_held, .ref h_m_s].toArray below meth c D A 4 0 0 (QV below [.ref h_m, .ref h_m_held, .ref h_m_s].toArray s D A (PoV [(h_m, .inr (6, [.ref h_m_s, .ref h_m_past, .ref h_m_held, .int m_pasts, .int m_runs0, .ref h_m_text, .int m_typed, .ref h_m_now, .ref h_m_kept, .int m_spot, .int m_reason, .int m_cause, .int m_orders, .int m_kindNow, .int m_placeNow])), (h_m_s, .inl (cI, 116, .inl res)), (h_m_past, .inl (cI, 464, .inl m_past)), (h_m_held, .inl (cI, 116, .inl m_held)), (h_m_text, .inl (cI, 60, .inl m_text)), (h_m_now, .inl (cI, 10, .inl m_now)), (h_m_kept, .inl (cI, 16, .inl m_kept))])) [(h_m, .inr (6, [.ref h_m_s, .ref h_m_past, .ref h_m_held, .int m_pasts, .int m_runs0, .ref h_m_text, .int m_typed, .ref h_m_now, .ref h_m_kept, .int m_spot, .int m_reason, .int m_cause, .int m_orders, .int m_kindNow, .int m_placeNow])), (h_m_s, .inl (cI, 116, .inl u2)), (h_m_past, .inl (cI, 464, .inl m_past)), (h_m_held, .inl (cI, 116, .inl m_held)), (h_m_text, .inl (cI, 60, .inl m_text)), (h_m_now, .inl (cI, 10, .inl m_now)), (h_m_kept, .inl (cI, 16, .inl m_kept))] [(1, .ref h_m_held), (2, .ref h_m_s), (3, .int u1)] 2 [] := by
    intro n6
    induction n6 with
    | zero =>
      intro u1 u2 h
      exact nz h
    | succ n6 ih7 =>
      intro u1 u2 h
      rw [f_X6_copies_m_held_m_s_L2] at h
      refine G_iload_n hc dX6_copies_2 rfl ?_
      refine G_bipush (v := 116) hc dX6_copies_3 (by decide) ?_
      refine G_icmp_ge (tgt := 20) hc dX6_copies_5 (by decide) (fun c12 => ?_) (fun c12 => ?_)
      · have h := ip h c12
        have h := Option.some.inj h
        subst h
        refine G_lv (lv' := []) lsame_nil ?_
        exact hK8
      · have h := inn h c12
        refine G_aload_n hc dX6_copies_8 rfl ?_
        refine G_iload_n hc dX6_copies_9 rfl ?_
        refine G_aload_n hc dX6_copies_10 rfl ?_
        refine G_iload_n hc dX6_copies_11 rfl ?_
        obtain ⟨v9, i_v9, e_v9, h⟩ := rb h
        refine G_iald hc 3 rfl i_v9 e_v9 dX6_copies_12 ?_
        obtain ⟨v10, i_v10, e_v10, h⟩ := wb h
        refine G_iast (ws' := [(h_m, .inr (6, [.ref h_m_s, .ref h_m_past, .ref h_m_held, .int m_pasts, .int m_runs0, .ref h_m_text, .int m_typed, .ref h_m_now, .ref h_m_kept, .int m_spot, .int m_reason, .int m_cause, .int m_orders, .int m_kindNow, .int m_placeNow])), (h_m_s, .inl (cI, 116, .inl v10)), (h_m_past, .inl (cI, 464, .inl m_past)), (h_m_held, .inl (cI, 116, .inl m_held)), (h_m_text, .inl (cI, 60, .inl m_text)), (h_m_now, .inl (cI, 10, .inl m_now)), (h_m_kept, .inl (cI, 16, .inl m_kept))]) hc 1 rfl i_v10 e_v10 rfl dX6_copies_13 ?_
        obtain ⟨v11, e_v11, h⟩ := sb h
        refine G_iinc (v := v11) (lv' := [(1, .ref h_m_held), (2, .ref h_m_s), (3, .int v11)]) hc dX6_copies_14 rfl (e_v11.trans rfl) rfl rfl ?_
        refine G_goto (tgt := 2) hc dX6_copies_17 (by decide) ?_
        refine G_lv (lv' := [(1, .ref h_m_held), (2, .ref h_m_s), (3, .int v11)]) (lsame_cons rfl (lsame_cons rfl (lsame_cons rfl lsame_nil))) ?_
        exact ih7 _ _ h
  refine G_lv (lv' := [(1, .ref h_m_held), (2, .ref h_m_s), (3, .int (0 : Int32))]) (lsame_cons rfl (lsame_cons rfl (lsame_cons rfl lsame_nil))) ?_
  exact hL5 F _ _ hl4
set_option maxHeartbeats 4000000 in
set_option maxRecDepth 100000 in
theorem c_X6_fault (l : Launch) (D : va_G) (cI cS : ClassId) (X : XP) (F : Nat) (h_m h_m_s h_m_past h_m_held h_m_text h_m_now h_m_kept : Nat) (m_pasts : Int32) (m_runs0 : Int32) (m_typed : Int32) (m_spot : Int32) (m_reason : Int32) (m_cause : Int32) (m_orders : Int32) (m_kindNow : Int32) (m_placeNow : Int32) (m_s : Nat → Int32) (m_past : Nat → Int32) (m_held : Nat → Int32) (m_text : Nat → Int32) (m_now : Nat → Int32) (m_kept : Nat → Int32) (a1 : Int32) {res : Int32 × Int32 × Int32 × Int32 × Int32 × Int32 × Int32 × Int32 × Int32 × (Nat → Int32) × (Nat → Int32) × (Nat → Int32) × (Nat → Int32) × (Nat → Int32)} (h : f_X6_fault F m_pasts m_runs0 m_typed m_spot m_reason m_cause m_orders m_kindNow m_placeNow m_s m_past m_held m_text m_now m_kept a1 = some res) : CtI l D cI cS X yX6_fault cX6_fault 3 (some .int) 9 [.ref h_m, .int a1] [(h_m, .inr (6, [.ref h_m_s, .ref h_m_past, .ref h_m_held, .int m_pasts, .int m_runs0, .ref h_m_text, .int m_typed, .ref h_m_now, .ref h_m_kept, .int m_spot, .int m_reason, .int m_cause, .int m_orders, .int m_kindNow, .int m_placeNow])), (h_m_s, .inl (cI, 116, .inl m_s)), (h_m_past, .inl (cI, 464, .inl m_past)), (h_m_held, .inl (cI, 116, .inl m_held)), (h_m_text, .inl (cI, 60, .inl m_text)), (h_m_now, .inl (cI, 10, .inl m_now)), (h_m_kept, .inl (cI, 16, .inl m_kept))] (PoI res.1 [(h_m, .inr (6, [.ref h_m_s, .ref h_m_past, .ref h_m_held, .int res.2.1, .int res.2.2.1, .ref h_m_text, .int m_typed, .ref h_m_now, .ref h_m_kept, .int res.2.2.2.1, .int res.2.2.2.2.1, .int res.2.2.2.2.2.1, .int res.2.2.2.2.2.2.1, .int res.2.2.2.2.2.2.2.1, .int res.2.2.2.2.2.2.2.2.1])), (h_m_s, .inl (cI, 116, .inl res.2.2.2.2.2.2.2.2.2.1)), (h_m_past, .inl (cI, 464, .inl res.2.2.2.2.2.2.2.2.2.2.1)), (h_m_held, .inl (cI, 116, .inl res.2.2.2.2.2.2.2.2.2.2.2.1)), (h_m_text, .inl (cI, 60, .inl m_text)), (h_m_now, .inl (cI, 10, .inl res.2.2.2.2.2.2.2.2.2.2.2.2.1)), (h_m_kept, .inl (cI, 16, .inl res.2.2.2.2.2.2.2.2.2.2.2.2.2))]) := by
  refine CtI.of (by decide +kernel) rfl ?_
  intro p e s m below meth c A hc
  refine G_lv (lv' := [(0, .ref h_m), (1, .int a1)]) (lsame_cons rfl (lsame_cons rfl lsame_nil)) ?_
  unfold f_X6_fault at h
  refine G_iload_n hc dX6_fault_0 rfl ?_
  refine G_iconst (v := 0) hc dX6_fault_1 (by decide) ?_
  refine G_iconst (v := 2) hc dX6_fault_2 (by decide) ?_
  obtain ⟨z1, hu2, h⟩ := ob h
  refine G_callSI (ws2 := [(h_m, .inr (6, [.ref h_m_s, .ref h_m_past, .ref h_m_held, .int m_pasts, .int m_runs0, .ref h_m_text, .int m_typed, .ref h_m_now, .ref h_m_kept, .int m_spot, .int m_reason, .int m_cause, .int m_orders, .int m_kindNow, .int m_placeNow])), (h_m_s, .inl (cI, 116, .inl m_s)), (h_m_past, .inl (cI, 464, .inl m_past)), (h_m_held, .inl (cI, 116, .inl m_held)), (h_m_text, .inl (cI, 60, .inl m_text)), (h_m_now, .inl (cI, 10, .inl m_now)), (h_m_kept, .inl (cI, 16, .inl m_kept))]) hc m_X6_28 (c_X6_in l D cI cS X F a1 (0 : Int32) (2 : Int32) hu2) [] (rmok_of (Nat.le_of_ble_eq_true rfl)) ⟨Nat.zero_le _, Nat.zero_le _⟩ rfl rfl rfl rfl rfl ⟨rfl, rfl, rfl⟩ dX6_fault_3 ?_
  refine G_if_ne (tgt := 12) hc dX6_fault_6 (by decide) (fun c15 => ?_) (fun c15 => ?_)
  · have h := inn h c15
    refine G_aload_n hc dX6_fault_12 rfl ?_
    refine G_aload_n hc dX6_fault_13 rfl ?_
    refine G_get hc f_X6_7 0 rfl rfl dX6_fault_14 ?_
    refine G_aload_n hc dX6_fault_17 rfl ?_
    refine G_get hc f_X6_16 0 rfl rfl dX6_fault_18 ?_
    obtain ⟨z3, hu4, h⟩ := ob h
    refine G_callVV (ws2 := [(h_m, .inr (6, [.ref h_m_s, .ref h_m_past, .ref h_m_held, .int m_pasts, .int m_runs0, .ref h_m_text, .int m_typed, .ref h_m_now, .ref h_m_kept, .int m_spot, .int m_reason, .int m_cause, .int m_orders, .int m_kindNow, .int m_placeNow])), (h_m_s, .inl (cI, 116, .inl m_s)), (h_m_past, .inl (cI, 464, .inl m_past)), (h_m_held, .inl (cI, 116, .inl z3)), (h_m_text, .inl (cI, 60, .inl m_text)), (h_m_now, .inl (cI, 10, .inl m_now)), (h_m_kept, .inl (cI, 16, .inl m_kept))]) hc m_X6_183 (c_X6_copies_m_s_m_held l D cI cS X F h_m h_m_s h_m_past h_m_held h_m_text h_m_now h_m_kept m_pasts m_runs0 m_typed m_spot m_reason m_cause m_orders m_kindNow m_placeNow m_s m_past m_held m_text m_now m_kept hu4) 0 [0, 1, 2, 3, 4, 5, 6] rfl rfl (rmok_of (Nat.le_of_ble_eq_true rfl)) ⟨Nat.zero_le _, Nat.zero_le _⟩ rfl rfl rfl rfl rfl ⟨rfl, rfl, rfl⟩ dX6_fault_21 ?_
    refine G_aload_n hc dX6_fault_24 rfl ?_
    obtain ⟨z5, hu6, h⟩ := ob h
    refine G_callVI (ws2 := [(h_m, .inr (6, [.ref h_m_s, .ref h_m_past, .ref h_m_held, .int z5.2.1, .int z5.2.2.1, .ref h_m_text, .int m_typed, .ref h_m_now, .ref h_m_kept, .int z5.2.2.2.1, .int z5.2.2.2.2.1, .int z5.2.2.2.2.2.1, .int z5.2.2.2.2.2.2.1, .int z5.2.2.2.2.2.2.2.1, .int z5.2.2.2.2.2.2.2.2.1])), (h_m_s, .inl (cI, 116, .inl z5.2.2.2.2.2.2.2.2.2.1)), (h_m_past, .inl (cI, 464, .inl z5.2.2.2.2.2.2.2.2.2.2.1)), (h_m_held, .inl (cI, 116, .inl z3)), (h_m_text, .inl (cI, 60, .inl m_text)), (h_m_now, .inl (cI, 10, .inl z5.2.2.2.2.2.2.2.2.2.2.2.1)), (h_m_kept, .inl (cI, 16, .inl z5.2.2.2.2.2.2.2.2.2.2.2.2))]) hc m_X6_187 (c_X6_plays l D cI cS X F h_m h_m_s h_m_past h_m_held h_m_text h_m_now h_m_kept m_pasts m_runs0 m_typed m_spot m_reason m_cause m_orders m_kindNow m_placeNow m_s m_past z3 m_text m_now m_kept hu6) 0 [0, 1, 2, 3, 4, 5, 6] rfl rfl (rmok_of (Nat.le_of_ble_eq_true rfl)) ⟨Nat.zero_le _, Nat.zero_le _⟩ rfl rfl rfl rfl rfl ⟨rfl, rfl, rfl⟩ dX6_fault_25 ?_
    refine G_istore_n (lv' := [(0, .ref h_m), (1, .int a1), (2, .int z5.1)]) hc dX6_fault_28 rfl rfl ?_
    refine G_aload_n hc dX6_fault_29 rfl ?_
    refine G_aload_n hc dX6_fault_30 rfl ?_
    refine G_get hc f_X6_16 0 rfl rfl dX6_fault_31 ?_
    refine G_aload_n hc dX6_fault_34 rfl ?_
    refine G_get hc f_X6_7 0 rfl rfl dX6_fault_35 ?_
    obtain ⟨z7, hu8, h⟩ := ob h
    refine G_callVV (ws2 := [(h_m, .inr (6, [.ref h_m_s, .ref h_m_past, .ref h_m_held, .int z5.2.1, .int z5.2.2.1, .ref h_m_text, .int m_typed, .ref h_m_now, .ref h_m_kept, .int z5.2.2.2.1, .int z5.2.2.2.2.1, .int z5.2.2.2.2.2.1, .int z5.2.2.2.2.2.2.1, .int z5.2.2.2.2.2.2.2.1, .int z5.2.2.2.2.2.2.2.2.1])), (h_m_s, .inl (cI, 116, .inl z7)), (h_m_past, .inl (cI, 464, .inl z5.2.2.2.2.2.2.2.2.2.2.1)), (h_m_held, .inl (cI, 116, .inl z3)), (h_m_text, .inl (cI, 60, .inl m_text)), (h_m_now, .inl (cI, 10, .inl z5.2.2.2.2.2.2.2.2.2.2.2.1)), (h_m_kept, .inl (cI, 16, .inl z5.2.2.2.2.2.2.2.2.2.2.2.2))]) hc m_X6_183 (c_X6_copies_m_held_m_s l D cI cS X F h_m h_m_s h_m_past h_m_held h_m_text h_m_now h_m_kept z5.2.1 z5.2.2.1 m_typed z5.2.2.2.1 z5.2.2.2.2.1 z5.2.2.2.2.2.1 z5.2.2.2.2.2.2.1 z5.2.2.2.2.2.2.2.1 z5.2.2.2.2.2.2.2.2.1 z5.2.2.2.2.2.2.2.2.2.1 z5.2.2.2.2.2.2.2.2.2.2.1 z3 m_text z5.2.2.2.2.2.2.2.2.2.2.2.1 z5.2.2.2.2.2.2.2.2.2.2.2.2 hu8) 0 [0, 1, 2, 3, 4, 5, 6] rfl rfl (rmok_of (Nat.le_of_ble_eq_true rfl)) ⟨Nat.zero_le _, Nat.zero_le _⟩ rfl rfl rfl rfl rfl ⟨rfl, rfl, rfl⟩ dX6_fault_38 ?_
    refine G_iload_n hc dX6_fault_41 rfl ?_
    refine G_ldc (v := -1000004) hc k_X6_50 dX6_fault_42 ?_
    obtain ⟨t9, hr11, h⟩ := ob h
    have hj10 : G p l e (rmk 9) s m [.ref h_m, .int a1].toArray below meth c D A 3 0 0 (QI below [.ref h_m, .int a1].toArray s D A (PoI res.1 [(h_m, .inr (6, [.ref h_m_s, .ref h_m_past, .ref h_m_held, .int res.2.1, .int res.2.2.1, .ref h_m_text, .int m_typed, .ref h_m_now, .ref h_m_kept, .int res.2.2.2.1, .int res.2.2.2.2.1, .int res.2.2.2.2.2.1, .int res.2.2.2.2.2.2.1, .int res.2.2.2.2.2.2.2.1, .int res.2.2.2.2.2.2.2.2.1])), (h_m_s, .inl (cI, 116, .inl res.2.2.2.2.2.2.2.2.2.1)), (h_m_past, .inl (cI, 464, .inl res.2.2.2.2.2.2.2.2.2.2.1)), (h_m_held, .inl (cI, 116, .inl res.2.2.2.2.2.2.2.2.2.2.2.1)), (h_m_text, .inl (cI, 60, .inl m_text)), (h_m_now, .inl (cI, 10, .inl res.2.2.2.2.2.2.2.2.2.2.2.2.1)), (h_m_kept, .inl (cI, 16, .inl res.2.2.2.2.2.2.2.2.2.2.2.2.2))])) [(h_m, .inr (6, [.ref h_m_s, .ref h_m_past, .ref h_m_held, .int z5.2.1, .int z5.2.2.1, .ref h_m_text, .int m_typed, .ref h_m_now, .ref h_m_kept, .int z5.2.2.2.1, .int z5.2.2.2.2.1, .int z5.2.2.2.2.2.1, .int z5.2.2.2.2.2.2.1, .int z5.2.2.2.2.2.2.2.1, .int z5.2.2.2.2.2.2.2.2.1])), (h_m_s, .inl (cI, 116, .inl z7)), (h_m_past, .inl (cI, 464, .inl z5.2.2.2.2.2.2.2.2.2.2.1)), (h_m_held, .inl (cI, 116, .inl z3)), (h_m_text, .inl (cI, 60, .inl m_text)), (h_m_now, .inl (cI, 10, .inl z5.2.2.2.2.2.2.2.2.2.2.2.1)), (h_m_kept, .inl (cI, 16, .inl z5.2.2.2.2.2.2.2.2.2.2.2.2))] [] 71 [.int t9] := by
      have h := Option.some.inj h
      subst h
      exact G_ireturn hc ⟨rfl, rfl⟩ dX6_fault_71
    clear h
    have h := hr11
    clear hr11
    refine G_icmp_eq (tgt := 51) hc dX6_fault_44 (by decide) (fun c14 => ?_) (fun c14 => ?_)
    · have h := ip h c14
      refine G_iload_n hc dX6_fault_51 rfl ?_
      refine G_goto (tgt := 71) hc dX6_fault_52 (by decide) ?_
      have h := Option.some.inj h
      subst h
      refine G_lv (lv' := []) lsame_nil ?_
      exact hj10
    · have h := inn h c14
      refine G_iload_n hc dX6_fault_47 rfl ?_
      refine G_if_ne (tgt := 55) hc dX6_fault_48 (by decide) (fun c13 => ?_) (fun c13 => ?_)
      · have h := inn h c13
        refine G_iload_n hc dX6_fault_55 rfl ?_
        refine G_iconst (v := 1) hc dX6_fault_56 (by decide) ?_
        refine G_icmp_ne (tgt := 67) hc dX6_fault_57 (by decide) (fun c12 => ?_) (fun c12 => ?_)
        · have h := inn h c12
          refine G_aload_n hc dX6_fault_67 rfl ?_
          refine G_get hc f_X6_171 0 rfl rfl dX6_fault_68 ?_
          have h := Option.some.inj h
          subst h
          refine G_lv (lv' := []) lsame_nil ?_
          exact hj10
        · have h := ip h c12
          refine G_aload_n hc dX6_fault_60 rfl ?_
          refine G_get hc f_X6_168 0 rfl rfl dX6_fault_61 ?_
          refine G_goto (tgt := 71) hc dX6_fault_64 (by decide) ?_
          have h := Option.some.inj h
          subst h
          refine G_lv (lv' := []) lsame_nil ?_
          exact hj10
      · have h := ip h c13
        refine G_iload_n hc dX6_fault_51 rfl ?_
        refine G_goto (tgt := 71) hc dX6_fault_52 (by decide) ?_
        have h := Option.some.inj h
        subst h
        refine G_lv (lv' := []) lsame_nil ?_
        exact hj10
  · have h := ip h c15
    refine G_ldc (v := -1000001) hc k_X6_44 dX6_fault_9 ?_
    have h := Option.some.inj h
    subst h
    exact G_ireturn hc ⟨rfl, rfl⟩ dX6_fault_11
set_option maxHeartbeats 4000000 in
set_option maxRecDepth 100000 in
theorem c_X6_play (l : Launch) (D : va_G) (cI cS : ClassId) (X : XP) (F : Nat) (h_m h_m_s h_m_past h_m_held h_m_text h_m_now h_m_kept : Nat) (m_pasts : Int32) (m_runs0 : Int32) (m_typed : Int32) (m_spot : Int32) (m_reason : Int32) (m_cause : Int32) (m_orders : Int32) (m_kindNow : Int32) (m_placeNow : Int32) (m_s : Nat → Int32) (m_past : Nat → Int32) (m_held : Nat → Int32) (m_text : Nat → Int32) (m_now : Nat → Int32) (m_kept : Nat → Int32) {res : Int32 × Int32 × Int32 × Int32 × Int32 × Int32 × Int32 × Int32 × Int32 × (Nat → Int32) × (Nat → Int32) × (Nat → Int32) × (Nat → Int32) × (Nat → Int32)} (h : f_X6_play F m_pasts m_typed m_kindNow m_placeNow m_s m_past m_held m_text m_now m_kept = some res) : CtI l D cI cS X yX6_play cX6_play 2 (some .int) 9 [.ref h_m] [(h_m, .inr (6, [.ref h_m_s, .ref h_m_past, .ref h_m_held, .int m_pasts, .int m_runs0, .ref h_m_text, .int m_typed, .ref h_m_now, .ref h_m_kept, .int m_spot, .int m_reason, .int m_cause, .int m_orders, .int m_kindNow, .int m_placeNow])), (h_m_s, .inl (cI, 116, .inl m_s)), (h_m_past, .inl (cI, 464, .inl m_past)), (h_m_held, .inl (cI, 116, .inl m_held)), (h_m_text, .inl (cI, 60, .inl m_text)), (h_m_now, .inl (cI, 10, .inl m_now)), (h_m_kept, .inl (cI, 16, .inl m_kept))] (PoI res.1 [(h_m, .inr (6, [.ref h_m_s, .ref h_m_past, .ref h_m_held, .int res.2.1, .int res.2.2.1, .ref h_m_text, .int m_typed, .ref h_m_now, .ref h_m_kept, .int res.2.2.2.1, .int res.2.2.2.2.1, .int res.2.2.2.2.2.1, .int res.2.2.2.2.2.2.1, .int res.2.2.2.2.2.2.2.1, .int res.2.2.2.2.2.2.2.2.1])), (h_m_s, .inl (cI, 116, .inl res.2.2.2.2.2.2.2.2.2.1)), (h_m_past, .inl (cI, 464, .inl res.2.2.2.2.2.2.2.2.2.2.1)), (h_m_held, .inl (cI, 116, .inl res.2.2.2.2.2.2.2.2.2.2.2.1)), (h_m_text, .inl (cI, 60, .inl m_text)), (h_m_now, .inl (cI, 10, .inl res.2.2.2.2.2.2.2.2.2.2.2.2.1)), (h_m_kept, .inl (cI, 16, .inl res.2.2.2.2.2.2.2.2.2.2.2.2.2))]) := by
  refine CtI.of (by decide +kernel) rfl ?_
  intro p e s m below meth c A hc
  refine G_lv (lv' := [(0, .ref h_m)]) (lsame_cons rfl lsame_nil) ?_
  unfold f_X6_play at h
  refine G_aload_n hc dX6_play_0 rfl ?_
  refine G_aload_n hc dX6_play_1 rfl ?_
  refine G_get hc f_X6_7 0 rfl rfl dX6_play_2 ?_
  refine G_aload_n hc dX6_play_5 rfl ?_
  refine G_get hc f_X6_16 0 rfl rfl dX6_play_6 ?_
  obtain ⟨z1, hu2, h⟩ := ob h
  refine G_callVV (ws2 := [(h_m, .inr (6, [.ref h_m_s, .ref h_m_past, .ref h_m_held, .int m_pasts, .int m_runs0, .ref h_m_text, .int m_typed, .ref h_m_now, .ref h_m_kept, .int m_spot, .int m_reason, .int m_cause, .int m_orders, .int m_kindNow, .int m_placeNow])), (h_m_s, .inl (cI, 116, .inl m_s)), (h_m_past, .inl (cI, 464, .inl m_past)), (h_m_held, .inl (cI, 116, .inl z1)), (h_m_text, .inl (cI, 60, .inl m_text)), (h_m_now, .inl (cI, 10, .inl m_now)), (h_m_kept, .inl (cI, 16, .inl m_kept))]) hc m_X6_183 (c_X6_copies_m_s_m_held l D cI cS X F h_m h_m_s h_m_past h_m_held h_m_text h_m_now h_m_kept m_pasts m_runs0 m_typed m_spot m_reason m_cause m_orders m_kindNow m_placeNow m_s m_past m_held m_text m_now m_kept hu2) 0 [0, 1, 2, 3, 4, 5, 6] rfl rfl (rmok_of (Nat.le_of_ble_eq_true rfl)) ⟨Nat.zero_le _, Nat.zero_le _⟩ rfl rfl rfl rfl rfl ⟨rfl, rfl, rfl⟩ dX6_play_9 ?_
  refine G_aload_n hc dX6_play_12 rfl ?_
  obtain ⟨z3, hu4, h⟩ := ob h
  refine G_callVI (ws2 := [(h_m, .inr (6, [.ref h_m_s, .ref h_m_past, .ref h_m_held, .int z3.2.1, .int z3.2.2.1, .ref h_m_text, .int m_typed, .ref h_m_now, .ref h_m_kept, .int z3.2.2.2.1, .int z3.2.2.2.2.1, .int z3.2.2.2.2.2.1, .int z3.2.2.2.2.2.2.1, .int z3.2.2.2.2.2.2.2.1, .int z3.2.2.2.2.2.2.2.2.1])), (h_m_s, .inl (cI, 116, .inl z3.2.2.2.2.2.2.2.2.2.1)), (h_m_past, .inl (cI, 464, .inl z3.2.2.2.2.2.2.2.2.2.2.1)), (h_m_held, .inl (cI, 116, .inl z1)), (h_m_text, .inl (cI, 60, .inl m_text)), (h_m_now, .inl (cI, 10, .inl z3.2.2.2.2.2.2.2.2.2.2.2.1)), (h_m_kept, .inl (cI, 16, .inl z3.2.2.2.2.2.2.2.2.2.2.2.2))]) hc m_X6_187 (c_X6_plays l D cI cS X F h_m h_m_s h_m_past h_m_held h_m_text h_m_now h_m_kept m_pasts m_runs0 m_typed m_spot m_reason m_cause m_orders m_kindNow m_placeNow m_s m_past z1 m_text m_now m_kept hu4) 0 [0, 1, 2, 3, 4, 5, 6] rfl rfl (rmok_of (Nat.le_of_ble_eq_true rfl)) ⟨Nat.zero_le _, Nat.zero_le _⟩ rfl rfl rfl rfl rfl ⟨rfl, rfl, rfl⟩ dX6_play_13 ?_
  refine G_istore_n (lv' := [(0, .ref h_m), (1, .int z3.1)]) hc dX6_play_16 rfl rfl ?_
  refine G_aload_n hc dX6_play_17 rfl ?_
  refine G_aload_n hc dX6_play_18 rfl ?_
  refine G_get hc f_X6_16 0 rfl rfl dX6_play_19 ?_
  refine G_aload_n hc dX6_play_22 rfl ?_
  refine G_get hc f_X6_7 0 rfl rfl dX6_play_23 ?_
  obtain ⟨z5, hu6, h⟩ := ob h
  refine G_callVV (ws2 := [(h_m, .inr (6, [.ref h_m_s, .ref h_m_past, .ref h_m_held, .int z3.2.1, .int z3.2.2.1, .ref h_m_text, .int m_typed, .ref h_m_now, .ref h_m_kept, .int z3.2.2.2.1, .int z3.2.2.2.2.1, .int z3.2.2.2.2.2.1, .int z3.2.2.2.2.2.2.1, .int z3.2.2.2.2.2.2.2.1, .int z3.2.2.2.2.2.2.2.2.1])), (h_m_s, .inl (cI, 116, .inl z5)), (h_m_past, .inl (cI, 464, .inl z3.2.2.2.2.2.2.2.2.2.2.1)), (h_m_held, .inl (cI, 116, .inl z1)), (h_m_text, .inl (cI, 60, .inl m_text)), (h_m_now, .inl (cI, 10, .inl z3.2.2.2.2.2.2.2.2.2.2.2.1)), (h_m_kept, .inl (cI, 16, .inl z3.2.2.2.2.2.2.2.2.2.2.2.2))]) hc m_X6_183 (c_X6_copies_m_held_m_s l D cI cS X F h_m h_m_s h_m_past h_m_held h_m_text h_m_now h_m_kept z3.2.1 z3.2.2.1 m_typed z3.2.2.2.1 z3.2.2.2.2.1 z3.2.2.2.2.2.1 z3.2.2.2.2.2.2.1 z3.2.2.2.2.2.2.2.1 z3.2.2.2.2.2.2.2.2.1 z3.2.2.2.2.2.2.2.2.2.1 z3.2.2.2.2.2.2.2.2.2.2.1 z1 m_text z3.2.2.2.2.2.2.2.2.2.2.2.1 z3.2.2.2.2.2.2.2.2.2.2.2.2 hu6) 0 [0, 1, 2, 3, 4, 5, 6] rfl rfl (rmok_of (Nat.le_of_ble_eq_true rfl)) ⟨Nat.zero_le _, Nat.zero_le _⟩ rfl rfl rfl rfl rfl ⟨rfl, rfl, rfl⟩ dX6_play_26 ?_
  refine G_iload_n hc dX6_play_29 rfl ?_
  refine G_ldc (v := -1000004) hc k_X6_50 dX6_play_30 ?_
  refine G_icmp_eq (tgt := 38) hc dX6_play_32 (by decide) (fun c15 => ?_) (fun c15 => ?_)
  · have h := ip h c15
    refine G_aload_n hc dX6_play_38 rfl ?_
    obtain ⟨z7, hu8, h⟩ := ob h
    refine G_callVV (ws2 := [(h_m, .inr (6, [.ref h_m_s, .ref h_m_past, .ref h_m_held, .int z7.1, .int z3.2.2.1, .ref h_m_text, .int m_typed, .ref h_m_now, .ref h_m_kept, .int z3.2.2.2.1, .int z3.2.2.2.2.1, .int z3.2.2.2.2.2.1, .int z3.2.2.2.2.2.2.1, .int z3.2.2.2.2.2.2.2.1, .int z3.2.2.2.2.2.2.2.2.1])), (h_m_s, .inl (cI, 116, .inl z5)), (h_m_past, .inl (cI, 464, .inl z7.2)), (h_m_held, .inl (cI, 116, .inl z1)), (h_m_text, .inl (cI, 60, .inl m_text)), (h_m_now, .inl (cI, 10, .inl z3.2.2.2.2.2.2.2.2.2.2.2.1)), (h_m_kept, .inl (cI, 16, .inl z3.2.2.2.2.2.2.2.2.2.2.2.2))]) hc m_X6_46 (c_X6_changes l D cI cS X F h_m h_m_s h_m_past h_m_held h_m_text h_m_now h_m_kept z3.2.1 z3.2.2.1 m_typed z3.2.2.2.1 z3.2.2.2.2.1 z3.2.2.2.2.2.1 z3.2.2.2.2.2.2.1 z3.2.2.2.2.2.2.2.1 z3.2.2.2.2.2.2.2.2.1 z5 z3.2.2.2.2.2.2.2.2.2.2.1 z1 m_text z3.2.2.2.2.2.2.2.2.2.2.2.1 z3.2.2.2.2.2.2.2.2.2.2.2.2 hu8) 0 [0, 1, 2, 3, 4, 5, 6] rfl rfl (rmok_of (Nat.le_of_ble_eq_true rfl)) ⟨Nat.zero_le _, Nat.zero_le _⟩ rfl rfl rfl rfl rfl ⟨rfl, rfl, rfl⟩ dX6_play_39 ?_
    refine G_aload_n hc dX6_play_42 rfl ?_
    obtain ⟨z9, hu10, h⟩ := ob h
    refine G_callVI (ws2 := [(h_m, .inr (6, [.ref h_m_s, .ref h_m_past, .ref h_m_held, .int z9.2.1, .int z9.2.2.1, .ref h_m_text, .int m_typed, .ref h_m_now, .ref h_m_kept, .int z9.2.2.2.1, .int z9.2.2.2.2.1, .int z9.2.2.2.2.2.1, .int z9.2.2.2.2.2.2.1, .int z9.2.2.2.2.2.2.2.1, .int z9.2.2.2.2.2.2.2.2.1])), (h_m_s, .inl (cI, 116, .inl z9.2.2.2.2.2.2.2.2.2.1)), (h_m_past, .inl (cI, 464, .inl z9.2.2.2.2.2.2.2.2.2.2.1)), (h_m_held, .inl (cI, 116, .inl z1)), (h_m_text, .inl (cI, 60, .inl m_text)), (h_m_now, .inl (cI, 10, .inl z9.2.2.2.2.2.2.2.2.2.2.2.1)), (h_m_kept, .inl (cI, 16, .inl z9.2.2.2.2.2.2.2.2.2.2.2.2))]) hc m_X6_187 (c_X6_plays l D cI cS X F h_m h_m_s h_m_past h_m_held h_m_text h_m_now h_m_kept z7.1 z3.2.2.1 m_typed z3.2.2.2.1 z3.2.2.2.2.1 z3.2.2.2.2.2.1 z3.2.2.2.2.2.2.1 z3.2.2.2.2.2.2.2.1 z3.2.2.2.2.2.2.2.2.1 z5 z7.2 z1 m_text z3.2.2.2.2.2.2.2.2.2.2.2.1 z3.2.2.2.2.2.2.2.2.2.2.2.2 hu10) 0 [0, 1, 2, 3, 4, 5, 6] rfl rfl (rmok_of (Nat.le_of_ble_eq_true rfl)) ⟨Nat.zero_le _, Nat.zero_le _⟩ rfl rfl rfl rfl rfl ⟨rfl, rfl, rfl⟩ dX6_play_43 ?_
    refine G_ldc (v := -1000004) hc k_X6_50 dX6_play_46 ?_
    obtain ⟨t11, hr13, h⟩ := ob h
    have hj12 : G p l e (rmk 9) s m [.ref h_m].toArray below meth c D A 2 0 0 (QI below [.ref h_m].toArray s D A (PoI res.1 [(h_m, .inr (6, [.ref h_m_s, .ref h_m_past, .ref h_m_held, .int res.2.1, .int res.2.2.1, .ref h_m_text, .int m_typed, .ref h_m_now, .ref h_m_kept, .int res.2.2.2.1, .int res.2.2.2.2.1, .int res.2.2.2.2.2.1, .int res.2.2.2.2.2.2.1, .int res.2.2.2.2.2.2.2.1, .int res.2.2.2.2.2.2.2.2.1])), (h_m_s, .inl (cI, 116, .inl res.2.2.2.2.2.2.2.2.2.1)), (h_m_past, .inl (cI, 464, .inl res.2.2.2.2.2.2.2.2.2.2.1)), (h_m_held, .inl (cI, 116, .inl res.2.2.2.2.2.2.2.2.2.2.2.1)), (h_m_text, .inl (cI, 60, .inl m_text)), (h_m_now, .inl (cI, 10, .inl res.2.2.2.2.2.2.2.2.2.2.2.2.1)), (h_m_kept, .inl (cI, 16, .inl res.2.2.2.2.2.2.2.2.2.2.2.2.2))])) [(h_m, .inr (6, [.ref h_m_s, .ref h_m_past, .ref h_m_held, .int z9.2.1, .int z9.2.2.1, .ref h_m_text, .int m_typed, .ref h_m_now, .ref h_m_kept, .int z9.2.2.2.1, .int z9.2.2.2.2.1, .int z9.2.2.2.2.2.1, .int z9.2.2.2.2.2.2.1, .int z9.2.2.2.2.2.2.2.1, .int z9.2.2.2.2.2.2.2.2.1])), (h_m_s, .inl (cI, 116, .inl z9.2.2.2.2.2.2.2.2.2.1)), (h_m_past, .inl (cI, 464, .inl z9.2.2.2.2.2.2.2.2.2.2.1)), (h_m_held, .inl (cI, 116, .inl z1)), (h_m_text, .inl (cI, 60, .inl m_text)), (h_m_now, .inl (cI, 10, .inl z9.2.2.2.2.2.2.2.2.2.2.2.1)), (h_m_kept, .inl (cI, 16, .inl z9.2.2.2.2.2.2.2.2.2.2.2.2))] [] 60 [.int t11] := by
      have h := Option.some.inj h
      subst h
      exact G_ireturn hc ⟨rfl, rfl⟩ dX6_play_60
    clear h
    have h := hr13
    clear hr13
    refine G_icmp_ne (tgt := 58) hc dX6_play_48 (by decide) (fun c14 => ?_) (fun c14 => ?_)
    · have h := inn h c14
      refine G_ldc (v := -1000004) hc k_X6_50 dX6_play_58 ?_
      have h := Option.some.inj h
      subst h
      refine G_lv (lv' := []) lsame_nil ?_
      exact hj12
    · have h := ip h c14
      refine G_aload_n hc dX6_play_51 rfl ?_
      refine G_get hc f_X6_165 0 rfl rfl dX6_play_52 ?_
      refine G_goto (tgt := 60) hc dX6_play_55 (by decide) ?_
      have h := Option.some.inj h
      subst h
      refine G_lv (lv' := []) lsame_nil ?_
      exact hj12
  · have h := inn h c15
    refine G_ldc (v := -1000002) hc k_X6_49 dX6_play_35 ?_
    have h := Option.some.inj h
    subst h
    exact G_ireturn hc ⟨rfl, rfl⟩ dX6_play_37
