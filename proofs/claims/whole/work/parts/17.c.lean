set_option maxHeartbeats 4000000 in
set_option maxRecDepth 100000 in
theorem c_X2_spells_str0 (l : Launch) (D : va_G) (cI cS : ClassId) (X : XP) (F : Nat) (h_t h_t_signs : Nat) (t_length : Int32) (t_word : Int32) (t_kind : Int32) (t_number : Int32) (t_row : Int32) (t_reached : Int32) (t_broken : Int32) (t_signs : Nat → Int32) (a2 : Int32) (a3 : Int32) {res : Int32} (h : f_X2_spells_str0 F t_length t_signs a2 a3 = some res) : CtI l D cI cS X yX2_spells cX2_spells 5 (some .boolean) 5 [.ref h_t, .ref (X.2.1 0), .int a2, .int a3] [(h_t, .inr (2, [.ref h_t_signs, .int t_length, .int t_word, .int t_kind, .int t_number, .int t_row, .int t_reached, .int t_broken])), (h_t_signs, .inl (cI, 60, .inl t_signs))] (PoI res [(h_t, .inr (2, [.ref h_t_signs, .int t_length, .int t_word, .int t_kind, .int t_number, .int t_row, .int t_reached, .int t_broken])), (h_t_signs, .inl (cI, 60, .inl t_signs))]) := by
  refine CtI.of (by decide +kernel) rfl ?_
  intro p e s m below meth c A hc
  refine G_lv (lv' := [(0, .ref h_t), (1, .ref (X.2.1 0)), (2, .int a2), (3, .int a3)]) (lsame_cons rfl (lsame_cons rfl (lsame_cons rfl (lsame_cons rfl lsame_nil)))) ?_
  unfold f_X2_spells_str0 at h
  refine G_iload_n hc dX2_spells_0 rfl ?_
  refine G_iload_n hc dX2_spells_1 rfl ?_
  refine G_isub hc dX2_spells_2 ?_
  refine G_aload_n hc dX2_spells_3 rfl ?_
  refine G_strlen (v := 3) (i := 0) hc (by decide) (by decide) m_X2_77 (rmok_of (Nat.le_of_ble_eq_true rfl)) ⟨Nat.zero_le _, Nat.zero_le _⟩ rfl dX2_spells_4 ?_
  refine G_icmp_eq (tgt := 12) hc dX2_spells_7 (by decide) (fun c17 => ?_) (fun c17 => ?_)
  · have h := ip h c17
    refine G_iconst (v := 0) hc dX2_spells_12 (by decide) ?_
    refine G_istore (lv' := [(0, .ref h_t), (1, .ref (X.2.1 0)), (2, .int a2), (3, .int a3), (4, .int (0 : Int32))]) hc dX2_spells_13 rfl rfl ?_
    obtain ⟨e2, hl3, h⟩ := ob h
    have hK7 : ∀ ax9, e2 = (Sum.inl ax9) → G p l e (rmk 5) s m [.ref h_t, .ref (X.2.1 0), .int a2, .int a3].toArray below meth c D A 5 0 0 (QI below [.ref h_t, .ref (X.2.1 0), .int a2, .int a3].toArray s D A (PoI res [(h_t, .inr (2, [.ref h_t_signs, .int t_length, .int t_word, .int t_kind, .int t_number, .int t_row, .int t_reached, .int t_broken])), (h_t_signs, .inl (cI, 60, .inl t_signs))])) [(h_t, .inr (2, [.ref h_t_signs, .int t_length, .int t_word, .int t_kind, .int t_number, .int t_row, .int t_reached, .int t_broken])), (h_t_signs, .inl (cI, 60, .inl t_signs))] [] 41 [] := by
      intro ax9 he
      subst he
      simp only [Sum.elim_inl, Sum.elim_inr] at h
      refine G_iconst (v := 0) hc dX2_spells_41 (by decide) ?_
      have h := Option.some.inj h
      subst h
      exact G_zreturn hc (by decide) ⟨rfl, rfl⟩ dX2_spells_42
    have hK8 : ∀ ax10, e2 = (Sum.inr ax10) → G p l e (rmk 5) s m [.ref h_t, .ref (X.2.1 0), .int a2, .int a3].toArray below meth c D A 5 0 0 (QI below [.ref h_t, .ref (X.2.1 0), .int a2, .int a3].toArray s D A (PoI res [(h_t, .inr (2, [.ref h_t_signs, .int t_length, .int t_word, .int t_kind, .int t_number, .int t_row, .int t_reached, .int t_broken])), (h_t_signs, .inl (cI, 60, .inl t_signs))])) [(h_t, .inr (2, [.ref h_t_signs, .int t_length, .int t_word, .int t_kind, .int t_number, .int t_row, .int t_reached, .int t_broken])), (h_t_signs, .inl (cI, 60, .inl t_signs))] [] 49 [] := by
      intro ax10 he
      subst he
      simp only [Sum.elim_inl, Sum.elim_inr] at h
      refine G_iconst (v := 1) hc dX2_spells_49 (by decide) ?_
      have h := Option.some.inj h
      subst h
      exact G_zreturn hc (by decide) ⟨rfl, rfl⟩ dX2_spells_50
    clear h
    have hL4 : ∀ (n5 : Nat) (u1 : Int32), f_X2_spells_str0_L15 F t_length t_signs a2 n5 u1 = some e2 → G p l e (rmk 5) s m [.ref h_t, .ref (X.2.1 0), .int a2, .int a3].toArray below meth c D A 5 0 0 (QI below [.ref h_t, .ref (X.2.1 0), .int a2, .int a3].toArray s D A (PoI res [(h_t, .inr (2, [.ref h_t_signs, .int t_length, .int t_word, .int t_kind, .int t_number, .int t_row, .int t_reached, .int t_broken])), (h_t_signs, .inl (cI, 60, .inl t_signs))])) [(h_t, .inr (2, [.ref h_t_signs, .int t_length, .int t_word, .int t_kind, .int t_number, .int t_row, .int t_reached, .int t_broken])), (h_t_signs, .inl (cI, 60, .inl t_signs))] [(0, .ref h_t), (1, .ref (X.2.1 0)), (2, .int a2), (4, .int u1)] 15 [] := by
      intro n5
      induction n5 with
      | zero =>
        intro u1 h
        exact nz h
      | succ n5 ih6 =>
        intro u1 h
        rw [f_X2_spells_str0_L15] at h
        refine G_iload hc dX2_spells_15 rfl ?_
        refine G_aload_n hc dX2_spells_17 rfl ?_
        refine G_strlen (v := 3) (i := 0) hc (by decide) (by decide) m_X2_77 (rmok_of (Nat.le_of_ble_eq_true rfl)) ⟨Nat.zero_le _, Nat.zero_le _⟩ rfl dX2_spells_18 ?_
        refine G_icmp_ge (tgt := 49) hc dX2_spells_21 (by decide) (fun c16 => ?_) (fun c16 => ?_)
        · have h := ip h c16
          have h := Option.some.inj h
          subst h
          refine G_lv (lv' := []) lsame_nil ?_
          exact hK8 _ rfl
        · have h := inn h c16
          refine G_aload_n hc dX2_spells_24 rfl ?_
          refine G_iload_n hc dX2_spells_25 rfl ?_
          refine G_iload hc dX2_spells_26 rfl ?_
          refine G_iadd hc dX2_spells_28 ?_
          obtain ⟨z11, hu12, h⟩ := ob h
          refine G_callVI (ws2 := [(h_t, .inr (2, [.ref h_t_signs, .int t_length, .int t_word, .int t_kind, .int t_number, .int t_row, .int t_reached, .int t_broken])), (h_t_signs, .inl (cI, 60, .inl t_signs))]) hc m_X2_60 (c_X2_signAt l D cI cS X F h_t h_t_signs t_length t_word t_kind t_number t_row t_reached t_broken t_signs (a2 + u1) hu12) 0 [0, 1] rfl rfl (rmok_of (Nat.le_of_ble_eq_true rfl)) ⟨Nat.zero_le _, Nat.zero_le _⟩ rfl rfl rfl rfl rfl ⟨rfl, rfl, rfl⟩ dX2_spells_29 ?_
          refine G_aload_n hc dX2_spells_32 rfl ?_
          refine G_iload hc dX2_spells_33 rfl ?_
          obtain ⟨v13, i_v13, e_v13, h⟩ := rb h
          refine G_charAt (i := 0) hc (by decide) rfl i_v13 e_v13 m_X2_81 (rmok_of (Nat.le_of_ble_eq_true rfl)) ⟨Nat.zero_le _, Nat.zero_le _⟩ rfl dX2_spells_35 ?_
          refine G_icmp_eq (tgt := 43) hc dX2_spells_38 (by decide) (fun c15 => ?_) (fun c15 => ?_)
          · have h := ip h c15
            obtain ⟨v14, e_v14, h⟩ := sb h
            refine G_iinc (v := v14) (lv' := [(0, .ref h_t), (1, .ref (X.2.1 0)), (2, .int a2), (4, .int v14)]) hc dX2_spells_43 rfl (e_v14.trans rfl) rfl rfl ?_
            refine G_goto (tgt := 15) hc dX2_spells_46 (by decide) ?_
            refine G_lv (lv' := [(0, .ref h_t), (1, .ref (X.2.1 0)), (2, .int a2), (4, .int v14)]) (lsame_cons rfl (lsame_cons rfl (lsame_cons rfl (lsame_cons rfl lsame_nil)))) ?_
            exact ih6 _ h
          · have h := inn h c15
            have h := Option.some.inj h
            subst h
            refine G_lv (lv' := []) lsame_nil ?_
            exact hK7 _ rfl
    refine G_lv (lv' := [(0, .ref h_t), (1, .ref (X.2.1 0)), (2, .int a2), (4, .int (0 : Int32))]) (lsame_cons rfl (lsame_cons rfl (lsame_cons rfl (lsame_cons rfl lsame_nil)))) ?_
    exact hL4 F _ hl3
  · have h := inn h c17
    refine G_iconst (v := 0) hc dX2_spells_10 (by decide) ?_
    have h := Option.some.inj h
    subst h
    exact G_zreturn hc (by decide) ⟨rfl, rfl⟩ dX2_spells_11
set_option maxHeartbeats 4000000 in
set_option maxRecDepth 100000 in
theorem c_X2_spells_str1 (l : Launch) (D : va_G) (cI cS : ClassId) (X : XP) (F : Nat) (h_t h_t_signs : Nat) (t_length : Int32) (t_word : Int32) (t_kind : Int32) (t_number : Int32) (t_row : Int32) (t_reached : Int32) (t_broken : Int32) (t_signs : Nat → Int32) (a2 : Int32) (a3 : Int32) {res : Int32} (h : f_X2_spells_str1 F t_length t_signs a2 a3 = some res) : CtI l D cI cS X yX2_spells cX2_spells 5 (some .boolean) 5 [.ref h_t, .ref (X.2.1 1), .int a2, .int a3] [(h_t, .inr (2, [.ref h_t_signs, .int t_length, .int t_word, .int t_kind, .int t_number, .int t_row, .int t_reached, .int t_broken])), (h_t_signs, .inl (cI, 60, .inl t_signs))] (PoI res [(h_t, .inr (2, [.ref h_t_signs, .int t_length, .int t_word, .int t_kind, .int t_number, .int t_row, .int t_reached, .int t_broken])), (h_t_signs, .inl (cI, 60, .inl t_signs))]) := by
  refine CtI.of (by decide +kernel) rfl ?_
  intro p e s m below meth c A hc
  refine G_lv (lv' := [(0, .ref h_t), (1, .ref (X.2.1 1)), (2, .int a2), (3, .int a3)]) (lsame_cons rfl (lsame_cons rfl (lsame_cons rfl (lsame_cons rfl lsame_nil)))) ?_
  unfold f_X2_spells_str1 at h
  refine G_iload_n hc dX2_spells_0 rfl ?_
  refine G_iload_n hc dX2_spells_1 rfl ?_
  refine G_isub hc dX2_spells_2 ?_
  refine G_aload_n hc dX2_spells_3 rfl ?_
  refine G_strlen (v := 4) (i := 1) hc (by decide) (by decide) m_X2_77 (rmok_of (Nat.le_of_ble_eq_true rfl)) ⟨Nat.zero_le _, Nat.zero_le _⟩ rfl dX2_spells_4 ?_
  refine G_icmp_eq (tgt := 12) hc dX2_spells_7 (by decide) (fun c17 => ?_) (fun c17 => ?_)
  · have h := ip h c17
    refine G_iconst (v := 0) hc dX2_spells_12 (by decide) ?_
    refine G_istore (lv' := [(0, .ref h_t), (1, .ref (X.2.1 1)), (2, .int a2), (3, .int a3), (4, .int (0 : Int32))]) hc dX2_spells_13 rfl rfl ?_
    obtain ⟨e2, hl3, h⟩ := ob h
    have hK7 : ∀ ax9, e2 = (Sum.inl ax9) → G p l e (rmk 5) s m [.ref h_t, .ref (X.2.1 1), .int a2, .int a3].toArray below meth c D A 5 0 0 (QI below [.ref h_t, .ref (X.2.1 1), .int a2, .int a3].toArray s D A (PoI res [(h_t, .inr (2, [.ref h_t_signs, .int t_length, .int t_word, .int t_kind, .int t_number, .int t_row, .int t_reached, .int t_broken])), (h_t_signs, .inl (cI, 60, .inl t_signs))])) [(h_t, .inr (2, [.ref h_t_signs, .int t_length, .int t_word, .int t_kind, .int t_number, .int t_row, .int t_reached, .int t_broken])), (h_t_signs, .inl (cI, 60, .inl t_signs))] [] 41 [] := by
      intro ax9 he
      subst he
      simp only [Sum.elim_inl, Sum.elim_inr] at h
      refine G_iconst (v := 0) hc dX2_spells_41 (by decide) ?_
      have h := Option.some.inj h
      subst h
      exact G_zreturn hc (by decide) ⟨rfl, rfl⟩ dX2_spells_42
    have hK8 : ∀ ax10, e2 = (Sum.inr ax10) → G p l e (rmk 5) s m [.ref h_t, .ref (X.2.1 1), .int a2, .int a3].toArray below meth c D A 5 0 0 (QI below [.ref h_t, .ref (X.2.1 1), .int a2, .int a3].toArray s D A (PoI res [(h_t, .inr (2, [.ref h_t_signs, .int t_length, .int t_word, .int t_kind, .int t_number, .int t_row, .int t_reached, .int t_broken])), (h_t_signs, .inl (cI, 60, .inl t_signs))])) [(h_t, .inr (2, [.ref h_t_signs, .int t_length, .int t_word, .int t_kind, .int t_number, .int t_row, .int t_reached, .int t_broken])), (h_t_signs, .inl (cI, 60, .inl t_signs))] [] 49 [] := by
      intro ax10 he
      subst he
      simp only [Sum.elim_inl, Sum.elim_inr] at h
      refine G_iconst (v := 1) hc dX2_spells_49 (by decide) ?_
      have h := Option.some.inj h
      subst h
      exact G_zreturn hc (by decide) ⟨rfl, rfl⟩ dX2_spells_50
    clear h
    have hL4 : ∀ (n5 : Nat) (u1 : Int32), f_X2_spells_str1_L15 F t_length t_signs a2 n5 u1 = some e2 → G p l e (rmk 5) s m [.ref h_t, .ref (X.2.1 1), .int a2, .int a3].toArray below meth c D A 5 0 0 (QI below [.ref h_t, .ref (X.2.1 1), .int a2, .int a3].toArray s D A (PoI res [(h_t, .inr (2, [.ref h_t_signs, .int t_length, .int t_word, .int t_kind, .int t_number, .int t_row, .int t_reached, .int t_broken])), (h_t_signs, .inl (cI, 60, .inl t_signs))])) [(h_t, .inr (2, [.ref h_t_signs, .int t_length, .int t_word, .int t_kind, .int t_number, .int t_row, .int t_reached, .int t_broken])), (h_t_signs, .inl (cI, 60, .inl t_signs))] [(0, .ref h_t), (1, .ref (X.2.1 1)), (2, .int a2), (4, .int u1)] 15 [] := by
      intro n5
      induction n5 with
      | zero =>
        intro u1 h
        exact nz h
      | succ n5 ih6 =>
        intro u1 h
        rw [f_X2_spells_str1_L15] at h
        refine G_iload hc dX2_spells_15 rfl ?_
        refine G_aload_n hc dX2_spells_17 rfl ?_
        refine G_strlen (v := 4) (i := 1) hc (by decide) (by decide) m_X2_77 (rmok_of (Nat.le_of_ble_eq_true rfl)) ⟨Nat.zero_le _, Nat.zero_le _⟩ rfl dX2_spells_18 ?_
        refine G_icmp_ge (tgt := 49) hc dX2_spells_21 (by decide) (fun c16 => ?_) (fun c16 => ?_)
        · have h := ip h c16
          have h := Option.some.inj h
          subst h
          refine G_lv (lv' := []) lsame_nil ?_
          exact hK8 _ rfl
        · have h := inn h c16
          refine G_aload_n hc dX2_spells_24 rfl ?_
          refine G_iload_n hc dX2_spells_25 rfl ?_
          refine G_iload hc dX2_spells_26 rfl ?_
          refine G_iadd hc dX2_spells_28 ?_
          obtain ⟨z11, hu12, h⟩ := ob h
          refine G_callVI (ws2 := [(h_t, .inr (2, [.ref h_t_signs, .int t_length, .int t_word, .int t_kind, .int t_number, .int t_row, .int t_reached, .int t_broken])), (h_t_signs, .inl (cI, 60, .inl t_signs))]) hc m_X2_60 (c_X2_signAt l D cI cS X F h_t h_t_signs t_length t_word t_kind t_number t_row t_reached t_broken t_signs (a2 + u1) hu12) 0 [0, 1] rfl rfl (rmok_of (Nat.le_of_ble_eq_true rfl)) ⟨Nat.zero_le _, Nat.zero_le _⟩ rfl rfl rfl rfl rfl ⟨rfl, rfl, rfl⟩ dX2_spells_29 ?_
          refine G_aload_n hc dX2_spells_32 rfl ?_
          refine G_iload hc dX2_spells_33 rfl ?_
          obtain ⟨v13, i_v13, e_v13, h⟩ := rb h
          refine G_charAt (i := 1) hc (by decide) rfl i_v13 e_v13 m_X2_81 (rmok_of (Nat.le_of_ble_eq_true rfl)) ⟨Nat.zero_le _, Nat.zero_le _⟩ rfl dX2_spells_35 ?_
          refine G_icmp_eq (tgt := 43) hc dX2_spells_38 (by decide) (fun c15 => ?_) (fun c15 => ?_)
          · have h := ip h c15
            obtain ⟨v14, e_v14, h⟩ := sb h
            refine G_iinc (v := v14) (lv' := [(0, .ref h_t), (1, .ref (X.2.1 1)), (2, .int a2), (4, .int v14)]) hc dX2_spells_43 rfl (e_v14.trans rfl) rfl rfl ?_
            refine G_goto (tgt := 15) hc dX2_spells_46 (by decide) ?_
            refine G_lv (lv' := [(0, .ref h_t), (1, .ref (X.2.1 1)), (2, .int a2), (4, .int v14)]) (lsame_cons rfl (lsame_cons rfl (lsame_cons rfl (lsame_cons rfl lsame_nil)))) ?_
            exact ih6 _ h
          · have h := inn h c15
            have h := Option.some.inj h
            subst h
            refine G_lv (lv' := []) lsame_nil ?_
            exact hK7 _ rfl
    refine G_lv (lv' := [(0, .ref h_t), (1, .ref (X.2.1 1)), (2, .int a2), (4, .int (0 : Int32))]) (lsame_cons rfl (lsame_cons rfl (lsame_cons rfl (lsame_cons rfl lsame_nil)))) ?_
    exact hL4 F _ hl3
  · have h := inn h c17
    refine G_iconst (v := 0) hc dX2_spells_10 (by decide) ?_
    have h := Option.some.inj h
    subst h
    exact G_zreturn hc (by decide) ⟨rfl, rfl⟩ dX2_spells_11
set_option maxHeartbeats 4000000 in
set_option maxRecDepth 100000 in
theorem c_X2_spells_str2 (l : Launch) (D : va_G) (cI cS : ClassId) (X : XP) (F : Nat) (h_t h_t_signs : Nat) (t_length : Int32) (t_word : Int32) (t_kind : Int32) (t_number : Int32) (t_row : Int32) (t_reached : Int32) (t_broken : Int32) (t_signs : Nat → Int32) (a2 : Int32) (a3 : Int32) {res : Int32} (h : f_X2_spells_str2 F t_length t_signs a2 a3 = some res) : CtI l D cI cS X yX2_spells cX2_spells 5 (some .boolean) 5 [.ref h_t, .ref (X.2.1 2), .int a2, .int a3] [(h_t, .inr (2, [.ref h_t_signs, .int t_length, .int t_word, .int t_kind, .int t_number, .int t_row, .int t_reached, .int t_broken])), (h_t_signs, .inl (cI, 60, .inl t_signs))] (PoI res [(h_t, .inr (2, [.ref h_t_signs, .int t_length, .int t_word, .int t_kind, .int t_number, .int t_row, .int t_reached, .int t_broken])), (h_t_signs, .inl (cI, 60, .inl t_signs))]) := by
  refine CtI.of (by decide +kernel) rfl ?_
  intro p e s m below meth c A hc
  refine G_lv (lv' := [(0, .ref h_t), (1, .ref (X.2.1 2)), (2, .int a2), (3, .int a3)]) (lsame_cons rfl (lsame_cons rfl (lsame_cons rfl (lsame_cons rfl lsame_nil)))) ?_
  unfold f_X2_spells_str2 at h
  refine G_iload_n hc dX2_spells_0 rfl ?_
  refine G_iload_n hc dX2_spells_1 rfl ?_
  refine G_isub hc dX2_spells_2 ?_
  refine G_aload_n hc dX2_spells_3 rfl ?_
  refine G_strlen (v := 4) (i := 2) hc (by decide) (by decide) m_X2_77 (rmok_of (Nat.le_of_ble_eq_true rfl)) ⟨Nat.zero_le _, Nat.zero_le _⟩ rfl dX2_spells_4 ?_
  refine G_icmp_eq (tgt := 12) hc dX2_spells_7 (by decide) (fun c17 => ?_) (fun c17 => ?_)
  · have h := ip h c17
    refine G_iconst (v := 0) hc dX2_spells_12 (by decide) ?_
    refine G_istore (lv' := [(0, .ref h_t), (1, .ref (X.2.1 2)), (2, .int a2), (3, .int a3), (4, .int (0 : Int32))]) hc dX2_spells_13 rfl rfl ?_
    obtain ⟨e2, hl3, h⟩ := ob h
    have hK7 : ∀ ax9, e2 = (Sum.inl ax9) → G p l e (rmk 5) s m [.ref h_t, .ref (X.2.1 2), .int a2, .int a3].toArray below meth c D A 5 0 0 (QI below [.ref h_t, .ref (X.2.1 2), .int a2, .int a3].toArray s D A (PoI res [(h_t, .inr (2, [.ref h_t_signs, .int t_length, .int t_word, .int t_kind, .int t_number, .int t_row, .int t_reached, .int t_broken])), (h_t_signs, .inl (cI, 60, .inl t_signs))])) [(h_t, .inr (2, [.ref h_t_signs, .int t_length, .int t_word, .int t_kind, .int t_number, .int t_row, .int t_reached, .int t_broken])), (h_t_signs, .inl (cI, 60, .inl t_signs))] [] 41 [] := by
      intro ax9 he
      subst he
      simp only [Sum.elim_inl, Sum.elim_inr] at h
      refine G_iconst (v := 0) hc dX2_spells_41 (by decide) ?_
      have h := Option.some.inj h
      subst h
      exact G_zreturn hc (by decide) ⟨rfl, rfl⟩ dX2_spells_42
    have hK8 : ∀ ax10, e2 = (Sum.inr ax10) → G p l e (rmk 5) s m [.ref h_t, .ref (X.2.1 2), .int a2, .int a3].toArray below meth c D A 5 0 0 (QI below [.ref h_t, .ref (X.2.1 2), .int a2, .int a3].toArray s D A (PoI res [(h_t, .inr (2, [.ref h_t_signs, .int t_length, .int t_word, .int t_kind, .int t_number, .int t_row, .int t_reached, .int t_broken])), (h_t_signs, .inl (cI, 60, .inl t_signs))])) [(h_t, .inr (2, [.ref h_t_signs, .int t_length, .int t_word, .int t_kind, .int t_number, .int t_row, .int t_reached, .int t_broken])), (h_t_signs, .inl (cI, 60, .inl t_signs))] [] 49 [] := by
      intro ax10 he
      subst he
      simp only [Sum.elim_inl, Sum.elim_inr] at h
      refine G_iconst (v := 1) hc dX2_spells_49 (by decide) ?_
      have h := Option.some.inj h
      subst h
      exact G_zreturn hc (by decide) ⟨rfl, rfl⟩ dX2_spells_50
    clear h
    have hL4 : ∀ (n5 : Nat) (u1 : Int32), f_X2_spells_str2_L15 F t_length t_signs a2 n5 u1 = some e2 → G p l e (rmk 5) s m [.ref h_t, .ref (X.2.1 2), .int a2, .int a3].toArray below meth c D A 5 0 0 (QI below [.ref h_t, .ref (X.2.1 2), .int a2, .int a3].toArray s D A (PoI res [(h_t, .inr (2, [.ref h_t_signs, .int t_length, .int t_word, .int t_kind, .int t_number, .int t_row, .int t_reached, .int t_broken])), (h_t_signs, .inl (cI, 60, .inl t_signs))])) [(h_t, .inr (2, [.ref h_t_signs, .int t_length, .int t_word, .int t_kind, .int t_number, .int t_row, .int t_reached, .int t_broken])), (h_t_signs, .inl (cI, 60, .inl t_signs))] [(0, .ref h_t), (1, .ref (X.2.1 2)), (2, .int a2), (4, .int u1)] 15 [] := by
      intro n5
      induction n5 with
      | zero =>
        intro u1 h
        exact nz h
      | succ n5 ih6 =>
        intro u1 h
        rw [f_X2_spells_str2_L15] at h
        refine G_iload hc dX2_spells_15 rfl ?_
        refine G_aload_n hc dX2_spells_17 rfl ?_
        refine G_strlen (v := 4) (i := 2) hc (by decide) (by decide) m_X2_77 (rmok_of (Nat.le_of_ble_eq_true rfl)) ⟨Nat.zero_le _, Nat.zero_le _⟩ rfl dX2_spells_18 ?_
        refine G_icmp_ge (tgt := 49) hc dX2_spells_21 (by decide) (fun c16 => ?_) (fun c16 => ?_)
        · have h := ip h c16
          have h := Option.some.inj h
          subst h
          refine G_lv (lv' := []) lsame_nil ?_
          exact hK8 _ rfl
        · have h := inn h c16
          refine G_aload_n hc dX2_spells_24 rfl ?_
          refine G_iload_n hc dX2_spells_25 rfl ?_
          refine G_iload hc dX2_spells_26 rfl ?_
          refine G_iadd hc dX2_spells_28 ?_
          obtain ⟨z11, hu12, h⟩ := ob h
          refine G_callVI (ws2 := [(h_t, .inr (2, [.ref h_t_signs, .int t_length, .int t_word, .int t_kind, .int t_number, .int t_row, .int t_reached, .int t_broken])), (h_t_signs, .inl (cI, 60, .inl t_signs))]) hc m_X2_60 (c_X2_signAt l D cI cS X F h_t h_t_signs t_length t_word t_kind t_number t_row t_reached t_broken t_signs (a2 + u1) hu12) 0 [0, 1] rfl rfl (rmok_of (Nat.le_of_ble_eq_true rfl)) ⟨Nat.zero_le _, Nat.zero_le _⟩ rfl rfl rfl rfl rfl ⟨rfl, rfl, rfl⟩ dX2_spells_29 ?_
          refine G_aload_n hc dX2_spells_32 rfl ?_
          refine G_iload hc dX2_spells_33 rfl ?_
          obtain ⟨v13, i_v13, e_v13, h⟩ := rb h
          refine G_charAt (i := 2) hc (by decide) rfl i_v13 e_v13 m_X2_81 (rmok_of (Nat.le_of_ble_eq_true rfl)) ⟨Nat.zero_le _, Nat.zero_le _⟩ rfl dX2_spells_35 ?_
          refine G_icmp_eq (tgt := 43) hc dX2_spells_38 (by decide) (fun c15 => ?_) (fun c15 => ?_)
          · have h := ip h c15
            obtain ⟨v14, e_v14, h⟩ := sb h
            refine G_iinc (v := v14) (lv' := [(0, .ref h_t), (1, .ref (X.2.1 2)), (2, .int a2), (4, .int v14)]) hc dX2_spells_43 rfl (e_v14.trans rfl) rfl rfl ?_
            refine G_goto (tgt := 15) hc dX2_spells_46 (by decide) ?_
            refine G_lv (lv' := [(0, .ref h_t), (1, .ref (X.2.1 2)), (2, .int a2), (4, .int v14)]) (lsame_cons rfl (lsame_cons rfl (lsame_cons rfl (lsame_cons rfl lsame_nil)))) ?_
            exact ih6 _ h
          · have h := inn h c15
            have h := Option.some.inj h
            subst h
            refine G_lv (lv' := []) lsame_nil ?_
            exact hK7 _ rfl
    refine G_lv (lv' := [(0, .ref h_t), (1, .ref (X.2.1 2)), (2, .int a2), (4, .int (0 : Int32))]) (lsame_cons rfl (lsame_cons rfl (lsame_cons rfl (lsame_cons rfl lsame_nil)))) ?_
    exact hL4 F _ hl3
  · have h := inn h c17
    refine G_iconst (v := 0) hc dX2_spells_10 (by decide) ?_
    have h := Option.some.inj h
    subst h
    exact G_zreturn hc (by decide) ⟨rfl, rfl⟩ dX2_spells_11
set_option maxHeartbeats 4000000 in
set_option maxRecDepth 100000 in
theorem c_X2_spells_str3 (l : Launch) (D : va_G) (cI cS : ClassId) (X : XP) (F : Nat) (h_t h_t_signs : Nat) (t_length : Int32) (t_word : Int32) (t_kind : Int32) (t_number : Int32) (t_row : Int32) (t_reached : Int32) (t_broken : Int32) (t_signs : Nat → Int32) (a2 : Int32) (a3 : Int32) {res : Int32} (h : f_X2_spells_str3 F t_length t_signs a2 a3 = some res) : CtI l D cI cS X yX2_spells cX2_spells 5 (some .boolean) 5 [.ref h_t, .ref (X.2.1 3), .int a2, .int a3] [(h_t, .inr (2, [.ref h_t_signs, .int t_length, .int t_word, .int t_kind, .int t_number, .int t_row, .int t_reached, .int t_broken])), (h_t_signs, .inl (cI, 60, .inl t_signs))] (PoI res [(h_t, .inr (2, [.ref h_t_signs, .int t_length, .int t_word, .int t_kind, .int t_number, .int t_row, .int t_reached, .int t_broken])), (h_t_signs, .inl (cI, 60, .inl t_signs))]) := by
  refine CtI.of (by decide +kernel) rfl ?_
  intro p e s m below meth c A hc
  refine G_lv (lv' := [(0, .ref h_t), (1, .ref (X.2.1 3)), (2, .int a2), (3, .int a3)]) (lsame_cons rfl (lsame_cons rfl (lsame_cons rfl (lsame_cons rfl lsame_nil)))) ?_
  unfold f_X2_spells_str3 at h
  refine G_iload_n hc dX2_spells_0 rfl ?_
  refine G_iload_n hc dX2_spells_1 rfl ?_
  refine G_isub hc dX2_spells_2 ?_
  refine G_aload_n hc dX2_spells_3 rfl ?_
  refine G_strlen (v := 5) (i := 3) hc (by decide) (by decide) m_X2_77 (rmok_of (Nat.le_of_ble_eq_true rfl)) ⟨Nat.zero_le _, Nat.zero_le _⟩ rfl dX2_spells_4 ?_
  refine G_icmp_eq (tgt := 12) hc dX2_spells_7 (by decide) (fun c17 => ?_) (fun c17 => ?_)
  · have h := ip h c17
    refine G_iconst (v := 0) hc dX2_spells_12 (by decide) ?_
    refine G_istore (lv' := [(0, .ref h_t), (1, .ref (X.2.1 3)), (2, .int a2), (3, .int a3), (4, .int (0 : Int32))]) hc dX2_spells_13 rfl rfl ?_
    obtain ⟨e2, hl3, h⟩ := ob h
    have hK7 : ∀ ax9, e2 = (Sum.inl ax9) → G p l e (rmk 5) s m [.ref h_t, .ref (X.2.1 3), .int a2, .int a3].toArray below meth c D A 5 0 0 (QI below [.ref h_t, .ref (X.2.1 3), .int a2, .int a3].toArray s D A (PoI res [(h_t, .inr (2, [.ref h_t_signs, .int t_length, .int t_word, .int t_kind, .int t_number, .int t_row, .int t_reached, .int t_broken])), (h_t_signs, .inl (cI, 60, .inl t_signs))])) [(h_t, .inr (2, [.ref h_t_signs, .int t_length, .int t_word, .int t_kind, .int t_number, .int t_row, .int t_reached, .int t_broken])), (h_t_signs, .inl (cI, 60, .inl t_signs))] [] 41 [] := by
      intro ax9 he
      subst he
      simp only [Sum.elim_inl, Sum.elim_inr] at h
      refine G_iconst (v := 0) hc dX2_spells_41 (by decide) ?_
      have h := Option.some.inj h
      subst h
      exact G_zreturn hc (by decide) ⟨rfl, rfl⟩ dX2_spells_42
    have hK8 : ∀ ax10, e2 = (Sum.inr ax10) → G p l e (rmk 5) s m [.ref h_t, .ref (X.2.1 3), .int a2, .int a3].toArray below meth c D A 5 0 0 (QI below [.ref h_t, .ref (X.2.1 3), .int a2, .int a3].toArray s D A (PoI res [(h_t, .inr (2, [.ref h_t_signs, .int t_length, .int t_word, .int t_kind, .int t_number, .int t_row, .int t_reached, .int t_broken])), (h_t_signs, .inl (cI, 60, .inl t_signs))])) [(h_t, .inr (2, [.ref h_t_signs, .int t_length, .int t_word, .int t_kind, .int t_number, .int t_row, .int t_reached, .int t_broken])), (h_t_signs, .inl (cI, 60, .inl t_signs))] [] 49 [] := by
      intro ax10 he
      subst he
      simp only [Sum.elim_inl, Sum.elim_inr] at h
      refine G_iconst (v := 1) hc dX2_spells_49 (by decide) ?_
      have h := Option.some.inj h
      subst h
      exact G_zreturn hc (by decide) ⟨rfl, rfl⟩ dX2_spells_50
    clear h
    have hL4 : ∀ (n5 : Nat) (u1 : Int32), f_X2_spells_str3_L15 F t_length t_signs a2 n5 u1 = some e2 → G p l e (rmk 5) s m [.ref h_t, .ref (X.2.1 3), .int a2, .int a3].toArray below meth c D A 5 0 0 (QI below [.ref h_t, .ref (X.2.1 3), .int a2, .int a3].toArray s D A (PoI res [(h_t, .inr (2, [.ref h_t_signs, .int t_length, .int t_word, .int t_kind, .int t_number, .int t_row, .int t_reached, .int t_broken])), (h_t_signs, .inl (cI, 60, .inl t_signs))])) [(h_t, .inr (2, [.ref h_t_signs, .int t_length, .int t_word, .int t_kind, .int t_number, .int t_row, .int t_reached, .int t_broken])), (h_t_signs, .inl (cI, 60, .inl t_signs))] [(0, .ref h_t), (1, .ref (X.2.1 3)), (2, .int a2), (4, .int u1)] 15 [] := by
      intro n5
      induction n5 with
      | zero =>
        intro u1 h
        exact nz h
      | succ n5 ih6 =>
        intro u1 h
        rw [f_X2_spells_str3_L15] at h
        refine G_iload hc dX2_spells_15 rfl ?_
        refine G_aload_n hc dX2_spells_17 rfl ?_
        refine G_strlen (v := 5) (i := 3) hc (by decide) (by decide) m_X2_77 (rmok_of (Nat.le_of_ble_eq_true rfl)) ⟨Nat.zero_le _, Nat.zero_le _⟩ rfl dX2_spells_18 ?_
        refine G_icmp_ge (tgt := 49) hc dX2_spells_21 (by decide) (fun c16 => ?_) (fun c16 => ?_)
        · have h := ip h c16
          have h := Option.some.inj h
          subst h
          refine G_lv (lv' := []) lsame_nil ?_
          exact hK8 _ rfl
        · have h := inn h c16
          refine G_aload_n hc dX2_spells_24 rfl ?_
          refine G_iload_n hc dX2_spells_25 rfl ?_
          refine G_iload hc dX2_spells_26 rfl ?_
          refine G_iadd hc dX2_spells_28 ?_
          obtain ⟨z11, hu12, h⟩ := ob h
          refine G_callVI (ws2 := [(h_t, .inr (2, [.ref h_t_signs, .int t_length, .int t_word, .int t_kind, .int t_number, .int t_row, .int t_reached, .int t_broken])), (h_t_signs, .inl (cI, 60, .inl t_signs))]) hc m_X2_60 (c_X2_signAt l D cI cS X F h_t h_t_signs t_length t_word t_kind t_number t_row t_reached t_broken t_signs (a2 + u1) hu12) 0 [0, 1] rfl rfl (rmok_of (Nat.le_of_ble_eq_true rfl)) ⟨Nat.zero_le _, Nat.zero_le _⟩ rfl rfl rfl rfl rfl ⟨rfl, rfl, rfl⟩ dX2_spells_29 ?_
          refine G_aload_n hc dX2_spells_32 rfl ?_
          refine G_iload hc dX2_spells_33 rfl ?_
          obtain ⟨v13, i_v13, e_v13, h⟩ := rb h
          refine G_charAt (i := 3) hc (by decide) rfl i_v13 e_v13 m_X2_81 (rmok_of (Nat.le_of_ble_eq_true rfl)) ⟨Nat.zero_le _, Nat.zero_le _⟩ rfl dX2_spells_35 ?_
          refine G_icmp_eq (tgt := 43) hc dX2_spells_38 (by decide) (fun c15 => ?_) (fun c15 => ?_)
          · have h := ip h c15
            obtain ⟨v14, e_v14, h⟩ := sb h
            refine G_iinc (v := v14) (lv' := [(0, .ref h_t), (1, .ref (X.2.1 3)), (2, .int a2), (4, .int v14)]) hc dX2_spells_43 rfl (e_v14.trans rfl) rfl rfl ?_
            refine G_goto (tgt := 15) hc dX2_spells_46 (by decide) ?_
            refine G_lv (lv' := [(0, .ref h_t), (1, .ref (X.2.1 3)), (2, .int a2), (4, .int v14)]) (lsame_cons rfl (lsame_cons rfl (lsame_cons rfl (lsame_cons rfl lsame_nil)))) ?_
            exact ih6 _ h
          · have h := inn h c15
            have h := Option.some.inj h
            subst h
            refine G_lv (lv' := []) lsame_nil ?_
            exact hK7 _ rfl
    refine G_lv (lv' := [(0, .ref h_t), (1, .ref (X.2.1 3)), (2, .int a2), (4, .int (0 : Int32))]) (lsame_cons rfl (lsame_cons rfl (lsame_cons rfl (lsame_cons rfl lsame_nil)))) ?_
    exact hL4 F _ hl3
  · have h := inn h c17
    refine G_iconst (v := 0) hc dX2_spells_10 (by decide) ?_
    have h := Option.some.inj h
    subst h
    exact G_zreturn hc (by decide) ⟨rfl, rfl⟩ dX2_spells_11
set_option maxHeartbeats 4000000 in
set_option maxRecDepth 100000 in
theorem c_X2_spells_str4 (l : Launch) (D : va_G) (cI cS : ClassId) (X : XP) (F : Nat) (h_t h_t_signs : Nat) (t_length : Int32) (t_word : Int32) (t_kind : Int32) (t_number : Int32) (t_row : Int32) (t_reached : Int32) (t_broken : Int32) (t_signs : Nat → Int32) (a2 : Int32) (a3 : Int32) {res : Int32} (h : f_X2_spells_str4 F t_length t_signs a2 a3 = some res) : CtI l D cI cS X yX2_spells cX2_spells 5 (some .boolean) 5 [.ref h_t, .ref (X.2.1 4), .int a2, .int a3] [(h_t, .inr (2, [.ref h_t_signs, .int t_length, .int t_word, .int t_kind, .int t_number, .int t_row, .int t_reached, .int t_broken])), (h_t_signs, .inl (cI, 60, .inl t_signs))] (PoI res [(h_t, .inr (2, [.ref h_t_signs, .int t_length, .int t_word, .int t_kind, .int t_number, .int t_row, .int t_reached, .int t_broken])), (h_t_signs, .inl (cI, 60, .inl t_signs))]) := by
  refine CtI.of (by decide +kernel) rfl ?_
  intro p e s m below meth c A hc
  refine G_lv (lv' := [(0, .ref h_t), (1, .ref (X.2.1 4)), (2, .int a2), (3, .int a3)]) (lsame_cons rfl (lsame_cons rfl (lsame_cons rfl (lsame_cons rfl lsame_nil)))) ?_
  unfold f_X2_spells_str4 at h
  refine G_iload_n hc dX2_spells_0 rfl ?_
  refine G_iload_n hc dX2_spells_1 rfl ?_
  refine G_isub hc dX2_spells_2 ?_
  refine G_aload_n hc dX2_spells_3 rfl ?_
  refine G_strlen (v := 4) (i := 4) hc (by decide) (by decide) m_X2_77 (rmok_of (Nat.le_of_ble_eq_true rfl)) ⟨Nat.zero_le _, Nat.zero_le _⟩ rfl dX2_spells_4 ?_
  refine G_icmp_eq (tgt := 12) hc dX2_spells_7 (by decide) (fun c17 => ?_) (fun c17 => ?_)
  · have h := ip h c17
    refine G_iconst (v := 0) hc dX2_spells_12 (by decide) ?_
    refine G_istore (lv' := [(0, .ref h_t), (1, .ref (X.2.1 4)), (2, .int a2), (3, .int a3), (4, .int (0 : Int32))]) hc dX2_spells_13 rfl rfl ?_
    obtain ⟨e2, hl3, h⟩ := ob h
    have hK7 : ∀ ax9, e2 = (Sum.inl ax9) → G p l e (rmk 5) s m [.ref h_t, .ref (X.2.1 4), .int a2, .int a3].toArray below meth c D A 5 0 0 (QI below [.ref h_t, .ref (X.2.1 4), .int a2, .int a3].toArray s D A (PoI res [(h_t, .inr (2, [.ref h_t_signs, .int t_length, .int t_word, .int t_kind, .int t_number, .int t_row, .int t_reached, .int t_broken])), (h_t_signs, .inl (cI, 60, .inl t_signs))])) [(h_t, .inr (2, [.ref h_t_signs, .int t_length, .int t_word, .int t_kind, .int t_number, .int t_row, .int t_reached, .int t_broken])), (h_t_signs, .inl (cI, 60, .inl t_signs))] [] 41 [] := by
      intro ax9 he
      subst he
      simp only [Sum.elim_inl, Sum.elim_inr] at h
      refine G_iconst (v := 0) hc dX2_spells_41 (by decide) ?_
      have h := Option.some.inj h
      subst h
      exact G_zreturn hc (by decide) ⟨rfl, rfl⟩ dX2_spells_42
    have hK8 : ∀ ax10, e2 = (Sum.inr ax10) → G p l e (rmk 5) s m [.ref h_t, .ref (X.2.1 4), .int a2, .int a3].toArray below meth c D A 5 0 0 (QI below [.ref h_t, .ref (X.2.1 4), .int a2, .int a3].toArray s D A (PoI res [(h_t, .inr (2, [.ref h_t_signs, .int t_length, .int t_word, .int t_kind, .int t_number, .int t_row, .int t_reached, .int t_broken])), (h_t_signs, .inl (cI, 60, .inl t_signs))])) [(h_t, .inr (2, [.ref h_t_signs, .int t_length, .int t_word, .int t_kind, .int t_number, .int t_row, .int t_reached, .int t_broken])), (h_t_signs, .inl (cI, 60, .inl t_signs))] [] 49 [] := by
      intro ax10 he
      subst he
      simp only [Sum.elim_inl, Sum.elim_inr] at h
      refine G_iconst (v := 1) hc dX2_spells_49 (by decide) ?_
      have h := Option.some.inj h
      subst h
      exact G_zreturn hc (by decide) ⟨rfl, rfl⟩ dX2_spells_50
    clear h
    have hL4 : ∀ (n5 : Nat) (u1 : Int32), f_X2_spells_str4_L15 F t_length t_signs a2 n5 u1 = some e2 → G p l e (rmk 5) s m [.ref h_t, .ref (X.2.1 4), .int a2, .int a3].toArray below meth c D A 5 0 0 (QI below [.ref h_t, .ref (X.2.1 4), .int a2, .int a3].toArray s D A (PoI res [(h_t, .inr (2, [.ref h_t_signs, .int t_length, .int t_word, .int t_kind, .int t_number, .int t_row, .int t_reached, .int t_broken])), (h_t_signs, .inl (cI, 60, .inl t_signs))])) [(h_t, .inr (2, [.ref h_t_signs, .int t_length, .int t_word, .int t_kind, .int t_number, .int t_row, .int t_reached, .int t_broken])), (h_t_signs, .inl (cI, 60, .inl t_signs))] [(0, .ref h_t), (1, .ref (X.2.1 4)), (2, .int a2), (4, .int u1)] 15 [] := by
      intro n5
      induction n5 with
      | zero =>
        intro u1 h
        exact nz h
      | succ n5 ih6 =>
        intro u1 h
        rw [f_X2_spells_str4_L15] at h
        refine G_iload hc dX2_spells_15 rfl ?_
        refine G_aload_n hc dX2_spells_17 rfl ?_
        refine G_strlen (v := 4) (i := 4) hc (by decide) (by decide) m_X2_77 (rmok_of (Nat.le_of_ble_eq_true rfl)) ⟨Nat.zero_le _, Nat.zero_le _⟩ rfl dX2_spells_18 ?_
        refine G_icmp_ge (tgt := 49) hc dX2_spells_21 (by decide) (fun c16 => ?_) (fun c16 => ?_)
        · have h := ip h c16
          have h := Option.some.inj h
          subst h
          refine G_lv (lv' := []) lsame_nil ?_
          exact hK8 _ rfl
        · have h := inn h c16
          refine G_aload_n hc dX2_spells_24 rfl ?_
          refine G_iload_n hc dX2_spells_25 rfl ?_
          refine G_iload hc dX2_spells_26 rfl ?_
          refine G_iadd hc dX2_spells_28 ?_
          obtain ⟨z11, hu12, h⟩ := ob h
          refine G_callVI (ws2 := [(h_t, .inr (2, [.ref h_t_signs, .int t_length, .int t_word, .int t_kind, .int t_number, .int t_row, .int t_reached, .int t_broken])), (h_t_signs, .inl (cI, 60, .inl t_signs))]) hc m_X2_60 (c_X2_signAt l D cI cS X F h_t h_t_signs t_length t_word t_kind t_number t_row t_reached t_broken t_signs (a2 + u1) hu12) 0 [0, 1] rfl rfl (rmok_of (Nat.le_of_ble_eq_true rfl)) ⟨Nat.zero_le _, Nat.zero_le _⟩ rfl rfl rfl rfl rfl ⟨rfl, rfl, rfl⟩ dX2_spells_29 ?_
          refine G_aload_n hc dX2_spells_32 rfl ?_
          refine G_iload hc dX2_spells_33 rfl ?_
          obtain ⟨v13, i_v13, e_v13, h⟩ := rb h
          refine G_charAt (i := 4) hc (by decide) rfl i_v13 e_v13 m_X2_81 (rmok_of (Nat.le_of_ble_eq_true rfl)) ⟨Nat.zero_le _, Nat.zero_le _⟩ rfl dX2_spells_35 ?_
          refine G_icmp_eq (tgt := 43) hc dX2_spells_38 (by decide) (fun c15 => ?_) (fun c15 => ?_)
          · have h := ip h c15
            obtain ⟨v14, e_v14, h⟩ := sb h
            refine G_iinc (v := v14) (lv' := [(0, .ref h_t), (1, .ref (X.2.1 4)), (2, .int a2), (4, .int v14)]) hc dX2_spells_43 rfl (e_v14.trans rfl) rfl rfl ?_
            refine G_goto (tgt := 15) hc dX2_spells_46 (by decide) ?_
            refine G_lv (lv' := [(0, .ref h_t), (1, .ref (X.2.1 4)), (2, .int a2), (4, .int v14)]) (lsame_cons rfl (lsame_cons rfl (lsame_cons rfl (lsame_cons rfl lsame_nil)))) ?_
            exact ih6 _ h
          · have h := inn h c15
            have h := Option.some.inj h
            subst h
            refine G_lv (lv' := []) lsame_nil ?_
            exact hK7 _ rfl
    refine G_lv (lv' := [(0, .ref h_t), (1, .ref (X.2.1 4)), (2, .int a2), (4, .int (0 : Int32))]) (lsame_cons rfl (lsame_cons rfl (lsame_cons rfl (lsame_cons rfl lsame_nil)))) ?_
    exact hL4 F _ hl3
  · have h := inn h c17
    refine G_iconst (v := 0) hc dX2_spells_10 (by decide) ?_
    have h := Option.some.inj h
    subst h
    exact G_zreturn hc (by decide) ⟨rfl, rfl⟩ dX2_spells_11
set_option maxHeartbeats 4000000 in
set_option maxRecDepth 100000 in
theorem c_X2_wordBetween (l : Launch) (D : va_G) (cI cS : ClassId) (X : XP) (F : Nat) (h_t h_t_signs : Nat) (t_length : Int32) (t_word : Int32) (t_kind : Int32) (t_number : Int32) (t_row : Int32) (t_reached : Int32) (t_broken : Int32) (t_signs : Nat → Int32) (a1 : Int32) (a2 : Int32) {res : Int32} (h : f_X2_wordBetween F t_length t_signs a1 a2 = some res) : CtI l D cI cS X yX2_wordBetween cX2_wordBetween 3 (some .int) 6 [.ref h_t, .int a1, .int a2] [(h_t, .inr (2, [.ref h_t_signs, .int t_length, .int t_word, .int t_kind, .int t_number, .int t_row, .int t_reached, .int t_broken])), (h_t_signs, .inl (cI, 60, .inl t_signs))] (PoI res [(h_t, .inr (2, [.ref h_t_signs, .int t_length, .int t_word, .int t_kind, .int t_number, .int t_row, .int t_reached, .int t_broken])), (h_t_signs, .inl (cI, 60, .inl t_signs))]) := by
  refine CtI.of (by decide +kernel) rfl ?_
  intro p e s m below meth c A hc
  refine G_lv (lv' := [(0, .ref h_t), (1, .int a1), (2, .int a2)]) (lsame_cons rfl (lsame_cons rfl (lsame_cons rfl lsame_nil))) ?_
  unfold f_X2_wordBetween at h
  refine G_aload_n hc dX2_wordBetween_0 rfl ?_
  refine G_ldcS hc hc.er.1 dX2_wordBetween_1 ?_
  refine G_iload_n hc dX2_wordBetween_3 rfl ?_
  refine G_iload_n hc dX2_wordBetween_4 rfl ?_
  obtain ⟨z1, hu2, h⟩ := ob h
  refine G_callVI (ws2 := [(h_t, .inr (2, [.ref h_t_signs, .int t_length, .int t_word, .int t_kind, .int t_number, .int t_row, .int t_reached, .int t_broken])), (h_t_signs, .inl (cI, 60, .inl t_signs))]) hc m_X2_65 (c_X2_spells_str0 l D cI cS X F h_t h_t_signs t_length t_word t_kind t_number t_row t_reached t_broken t_signs a1 a2 hu2) 0 [0, 1] rfl rfl (rmok_of (Nat.le_of_ble_eq_true rfl)) ⟨Nat.zero_le _, Nat.zero_le _⟩ rfl rfl rfl rfl rfl ⟨rfl, rfl, rfl⟩ dX2_wordBetween_5 ?_
  refine G_if_eq (tgt := 13) hc dX2_wordBetween_8 (by decide) (fun c18 => ?_) (fun c18 => ?_)
  · have h := ip h c18
    refine G_aload_n hc dX2_wordBetween_13 rfl ?_
    refine G_ldcS hc hc.er.2.1 dX2_wordBetween_14 ?_
    refine G_iload_n hc dX2_wordBetween_16 rfl ?_
    refine G_iload_n hc dX2_wordBetween_17 rfl ?_
    obtain ⟨z3, hu4, h⟩ := ob h
    refine G_callVI (ws2 := [(h_t, .inr (2, [.ref h_t_signs, .int t_length, .int t_word, .int t_kind, .int t_number, .int t_row, .int t_reached, .int t_broken])), (h_t_signs, .inl (cI, 60, .inl t_signs))]) hc m_X2_65 (c_X2_spells_str1 l D cI cS X F h_t h_t_signs t_length t_word t_kind t_number t_row t_reached t_broken t_signs a1 a2 hu4) 0 [0, 1] rfl rfl (rmok_of (Nat.le_of_ble_eq_true rfl)) ⟨Nat.zero_le _, Nat.zero_le _⟩ rfl rfl rfl rfl rfl ⟨rfl, rfl, rfl⟩ dX2_wordBetween_18 ?_
    refine G_if_eq (tgt := 26) hc dX2_wordBetween_21 (by decide) (fun c17 => ?_) (fun c17 => ?_)
    · have h := ip h c17
      refine G_aload_n hc dX2_wordBetween_26 rfl ?_
      refine G_ldcS hc hc.er.2.2.1 dX2_wordBetween_27 ?_
      refine G_iload_n hc dX2_wordBetween_29 rfl ?_
      refine G_iload_n hc dX2_wordBetween_30 rfl ?_
      obtain ⟨z5, hu6, h⟩ := ob h
      refine G_callVI (ws2 := [(h_t, .inr (2, [.ref h_t_signs, .int t_length, .int t_word, .int t_kind, .int t_number, .int t_row, .int t_reached, .int t_broken])), (h_t_signs, .inl (cI, 60, .inl t_signs))]) hc m_X2_65 (c_X2_spells_str2 l D cI cS X F h_t h_t_signs t_length t_word t_kind t_number t_row t_reached t_broken t_signs a1 a2 hu6) 0 [0, 1] rfl rfl (rmok_of (Nat.le_of_ble_eq_true rfl)) ⟨Nat.zero_le _, Nat.zero_le _⟩ rfl rfl rfl rfl rfl ⟨rfl, rfl, rfl⟩ dX2_wordBetween_31 ?_
      refine G_if_eq (tgt := 39) hc dX2_wordBetween_34 (by decide) (fun c16 => ?_) (fun c16 => ?_)
      · have h := ip h c16
        refine G_aload_n hc dX2_wordBetween_39 rfl ?_
        refine G_ldcS hc hc.er.2.2.2.1 dX2_wordBetween_40 ?_
        refine G_iload_n hc dX2_wordBetween_42 rfl ?_
        refine G_iload_n hc dX2_wordBetween_43 rfl ?_
        obtain ⟨z7, hu8, h⟩ := ob h
        refine G_callVI (ws2 := [(h_t, .inr (2, [.ref h_t_signs, .int t_length, .int t_word, .int t_kind, .int t_number, .int t_row, .int t_reached, .int t_broken])), (h_t_signs, .inl (cI, 60, .inl t_signs))]) hc m_X2_65 (c_X2_spells_str3 l D cI cS X F h_t h_t_signs t_length t_word t_kind t_number t_row t_reached t_broken t_signs a1 a2 hu8) 0 [0, 1] rfl rfl (rmok_of (Nat.le_of_ble_eq_true rfl)) ⟨Nat.zero_le _, Nat.zero_le _⟩ rfl rfl rfl rfl rfl ⟨rfl, rfl, rfl⟩ dX2_wordBetween_44 ?_
        refine G_if_eq (tgt := 52) hc dX2_wordBetween_47 (by decide) (fun c15 => ?_) (fun c15 => ?_)
        · have h := ip h c15
          refine G_aload_n hc dX2_wordBetween_52 rfl ?_
          refine G_ldcS hc hc.er.2.2.2.2 dX2_wordBetween_53 ?_
          refine G_iload_n hc dX2_wordBetween_55 rfl ?_
          refine G_iload_n hc dX2_wordBetween_56 rfl ?_
          obtain ⟨z9, hu10, h⟩ := ob h
          refine G_callVI (ws2 := [(h_t, .inr (2, [.ref h_t_signs, .int t_length, .int t_word, .int t_kind, .int t_number, .int t_row, .int t_reached, .int t_broken])), (h_t_signs, .inl (cI, 60, .inl t_signs))]) hc m_X2_65 (c_X2_spells_str4 l D cI cS X F h_t h_t_signs t_length t_word t_kind t_number t_row t_reached t_broken t_signs a1 a2 hu10) 0 [0, 1] rfl rfl (rmok_of (Nat.le_of_ble_eq_true rfl)) ⟨Nat.zero_le _, Nat.zero_le _⟩ rfl rfl rfl rfl rfl ⟨rfl, rfl, rfl⟩ dX2_wordBetween_57 ?_
          obtain ⟨t11, hr13, h⟩ := ob h
          have hj12 : G p l e (rmk 6) s m [.ref h_t, .int a1, .int a2].toArray below meth c D A 3 0 0 (QI below [.ref h_t, .int a1, .int a2].toArray s D A (PoI res [(h_t, .inr (2, [.ref h_t_signs, .int t_length, .int t_word, .int t_kind, .int t_number, .int t_row, .int t_reached, .int t_broken])), (h_t_signs, .inl (cI, 60, .inl t_signs))])) [(h_t, .inr (2, [.ref h_t_signs, .int t_length, .int t_word, .int t_kind, .int t_number, .int t_row, .int t_reached, .int t_broken])), (h_t_signs, .inl (cI, 60, .inl t_signs))] [] 68 [.int t11] := by
            have h := Option.some.inj h
            subst h
            exact G_ireturn hc ⟨rfl, rfl⟩ dX2_wordBetween_68
          clear h
          have h := hr13
          clear hr13
          refine G_if_eq (tgt := 67) hc dX2_wordBetween_60 (by decide) (fun c14 => ?_) (fun c14 => ?_)
          · have h := ip h c14
            refine G_iconst (v := 0) hc dX2_wordBetween_67 (by decide) ?_
            have h := Option.some.inj h
            subst h
            refine G_lv (lv' := []) lsame_nil ?_
            exact hj12
          · have h := inn h c14
            refine G_iconst (v := 5) hc dX2_wordBetween_63 (by decide) ?_
            refine G_goto (tgt := 68) hc dX2_wordBetween_64 (by decide) ?_
            have h := Option.some.inj h
            subst h
            refine G_lv (lv' := []) lsame_nil ?_
            exact hj12
        · have h := inn h c15
          refine G_iconst (v := 4) hc dX2_wordBetween_50 (by decide) ?_
          have h := Option.some.inj h
          subst h
          exact G_ireturn hc ⟨rfl, rfl⟩ dX2_wordBetween_51
      · have h := inn h c16
        refine G_iconst (v := 3) hc dX2_wordBetween_37 (by decide) ?_
        have h := Option.some.inj h
        subst h
        exact G_ireturn hc ⟨rfl, rfl⟩ dX2_wordBetween_38
    · have h := inn h c17
      refine G_iconst (v := 2) hc dX2_wordBetween_24 (by decide) ?_
      have h := Option.some.inj h
      subst h
      exact G_ireturn hc ⟨rfl, rfl⟩ dX2_wordBetween_25
  · have h := inn h c18
    refine G_iconst (v := 1) hc dX2_wordBetween_11 (by decide) ?_
    have h := Option.some.inj h
    subst h
    exact G_ireturn hc ⟨rfl, rfl⟩ dX2_wordBetween_12
set_option maxHeartbeats 4000000 in
set_option maxRecDepth 100000 in
theorem c_X2_readSign (l : Launch) (D : va_G) (cI cS : ClassId) (X : XP) (F : Nat) (h_t h_t_signs : Nat) (t_length : Int32) (t_word : Int32) (t_kind : Int32) (t_number : Int32) (t_row : Int32) (t_reached : Int32) (t_broken : Int32) (t_signs : Nat → Int32) (a1 : Int32) {res : Int32 × Int32} (h : f_X2_readSign F t_length t_reached t_broken t_signs a1 = some res) : CtV l D cI cS X yX2_readSign cX2_readSign 2 3 [.ref h_t, .int a1] [(h_t, .inr (2, [.ref h_t_signs, .int t_length, .int t_word, .int t_kind, .int t_number, .int t_row, .int t_reached, .int t_broken])), (h_t_signs, .inl (cI, 60, .inl t_signs))] (PoV [(h_t, .inr (2, [.ref h_t_signs, .int t_length, .int t_word, .int t_kind, .int t_number, .int t_row, .int res.1, .int res.2])), (h_t_signs, .inl (cI, 60, .inl t_signs))]) := by
  refine CtV.of (by decide +kernel) rfl ?_
  intro p e s m below meth c A hc
  refine G_lv (lv' := [(0, .ref h_t), (1, .int a1)]) (lsame_cons rfl (lsame_cons rfl lsame_nil)) ?_
  unfold f_X2_readSign at h
  refine G_aload_n hc dX2_readSign_0 rfl ?_
  refine G_get hc f_X2_42 0 rfl rfl dX2_readSign_1 ?_
  obtain ⟨t1, hr3, h⟩ := ob h
  have hj2 : G p l e (rmk 3) s m [.ref h_t, .int a1].toArray below meth c D A 2 0 0 (QV below [.ref h_t, .int a1].toArray s D A (PoV [(h_t, .inr (2, [.ref h_t_signs, .int t_length, .int t_word, .int t_kind, .int t_number, .int t_row, .int res.1, .int res.2])), (h_t_signs, .inl (cI, 60, .inl t_signs))])) [(h_t, .inr (2, [.ref h_t_signs, .int t_length, .int t_word, .int t_kind, .int t_number, .int t_row, .int t1.1, .int t1.2])), (h_t_signs, .inl (cI, 60, .inl t_signs))] [] 34 [] := by
    have h := Option.some.inj h
    subst h
    exact G_return hc rfl dX2_readSign_34
  clear h
  have h := hr3
  clear hr3
  refine G_if_ne (tgt := 29) hc dX2_readSign_4 (by decide) (fun c8 => ?_) (fun c8 => ?_)
  · have h := inn h c8
    refine G_aload_n hc dX2_readSign_29 rfl ?_
    refine G_iconst (v := 1) hc dX2_readSign_30 (by decide) ?_
    refine G_putz (ws' := [(h_t, .inr (2, [.ref h_t_signs, .int t_length, .int t_word, .int t_kind, .int t_number, .int t_row, .int t_reached, .int (1 : Int32)])), (h_t_signs, .inl (cI, 60, .inl t_signs))]) hc f_X2_42 p_X2_7 0 (by decide) rfl rfl rfl dX2_readSign_31 ?_
    have h := Option.some.inj h
    subst h
    refine G_lv (lv' := []) lsame_nil ?_
    exact hj2
  · have h := ip h c8
    refine G_aload_n hc dX2_readSign_7 rfl ?_
    refine G_iload_n hc dX2_readSign_8 rfl ?_
    refine G_iload_n hc dX2_readSign_9 rfl ?_
    obtain ⟨z4, hu5, h⟩ := ob h
    refine G_callVI (ws2 := [(h_t, .inr (2, [.ref h_t_signs, .int t_length, .int t_word, .int t_kind, .int t_number, .int t_row, .int t_reached, .int t_broken])), (h_t_signs, .inl (cI, 60, .inl t_signs))]) hc m_X2_31 (c_X2_isBetween l D cI cS X F h_t h_t_signs t_length t_word t_kind t_number t_row t_reached t_broken t_signs a1 a1 hu5) 0 [0, 1] rfl rfl (rmok_of (Nat.le_of_ble_eq_true rfl)) ⟨Nat.zero_le _, Nat.zero_le _⟩ rfl rfl rfl rfl rfl ⟨rfl, rfl, rfl⟩ dX2_readSign_10 ?_
    refine G_if_eq (tgt := 29) hc dX2_readSign_13 (by decide) (fun c7 => ?_) (fun c7 => ?_)
    · have h := ip h c7
      refine G_aload_n hc dX2_readSign_29 rfl ?_
      refine G_iconst (v := 1) hc dX2_readSign_30 (by decide) ?_
      refine G_putz (ws' := [(h_t, .inr (2, [.ref h_t_signs, .int t_length, .int t_word, .int t_kind, .int t_number, .int t_row, .int t_reached, .int (1 : Int32)])), (h_t_signs, .inl (cI, 60, .inl t_signs))]) hc f_X2_42 p_X2_7 0 (by decide) rfl rfl rfl dX2_readSign_31 ?_
      have h := Option.some.inj h
      subst h
      refine G_lv (lv' := []) lsame_nil ?_
      exact hj2
    · have h := inn h c7
      refine G_aload_n hc dX2_readSign_16 rfl ?_
      refine G_dup hc dX2_readSign_17 rfl ?_
      refine G_get hc f_X2_28 0 rfl rfl dX2_readSign_18 ?_
      refine G_iconst (v := 1) hc dX2_readSign_21 (by decide) ?_
      refine G_iadd hc dX2_readSign_22 ?_
      obtain ⟨v6, e_v6, h⟩ := sb h
      refine G_top e_v6 ?_
      refine G_puti (ws' := [(h_t, .inr (2, [.ref h_t_signs, .int t_length, .int t_word, .int t_kind, .int t_number, .int t_row, .int v6, .int t_broken])), (h_t_signs, .inl (cI, 60, .inl t_signs))]) hc f_X2_28 p_X2_6 0 rfl rfl rfl dX2_readSign_23 ?_
      refine G_goto (tgt := 34) hc dX2_readSign_26 (by decide) ?_
      have h := Option.some.inj h
      subst h
      refine G_lv (lv' := []) lsame_nil ?_
      exact hj2
set_option maxHeartbeats 4000000 in
set_option maxRecDepth 100000 in
theorem c_X2_readRow (l : Launch) (D : va_G) (cI cS : ClassId) (X : XP) (F : Nat) (h_t h_t_signs : Nat) (t_length : Int32) (t_word : Int32) (t_kind : Int32) (t_number : Int32) (t_row : Int32) (t_reached : Int32) (t_broken : Int32) (t_signs : Nat → Int32) {res : Int32 × Int32 × Int32} (h : f_X2_readRow F t_length t_row t_reached t_broken t_signs = some res) : CtV l D cI cS X yX2_readRow cX2_readRow 2 3 [.ref h_t] [(h_t, .inr (2, [.ref h_t_signs, .int t_length, .int t_word, .int t_kind, .int t_number, .int t_row, .int t_reached, .int t_broken])), (h_t_signs, .inl (cI, 60, .inl t_signs))] (PoV [(h_t, .inr (2, [.ref h_t_signs, .int t_length, .int t_word, .int t_kind, .int t_number, .int res.1, .int res.2.1, .int res.2.2])), (h_t_signs, .inl (cI, 60, .inl t_signs))]) := by
  refine CtV.of (by decide +kernel) rfl ?_
  intro p e s m below meth c A hc
  refine G_lv (lv' := [(0, .ref h_t)]) (lsame_cons rfl lsame_nil) ?_
  unfold f_X2_readRow at h
  refine G_aload_n hc dX2_readRow_0 rfl ?_
  refine G_aload_n hc dX2_readRow_1 rfl ?_
  refine G_get hc f_X2_42 0 rfl rfl dX2_readRow_2 ?_
  obtain ⟨t1, hr3, h⟩ := ob h
  have hj2 : G p l e (rmk 3) s m [.ref h_t].toArray below meth c D A 2 0 0 (QV below [.ref h_t].toArray s D A (PoV [(h_t, .inr (2, [.ref h_t_signs, .int t_length, .int t_word, .int t_kind, .int t_number, .int res.1, .int res.2.1, .int res.2.2])), (h_t_signs, .inl (cI, 60, .inl t_signs))])) [(h_t, .inr (2, [.ref h_t_signs, .int t_length, .int t_word, .int t_kind, .int t_number, .int t_row, .int t_reached, .int t_broken])), (h_t_signs, .inl (cI, 60, .inl t_signs))] [(0, .ref h_t)] 24 [.int t1, .ref h_t] := by
    obtain ⟨hz8, h⟩ := zb h
    refine G_putz (ws' := [(h_t, .inr (2, [.ref h_t_signs, .int t_length, .int t_word, .int t_kind, .int t_number, .int t_row, .int t_reached, .int t1])), (h_t_signs, .inl (cI, 60, .inl t_signs))]) hc f_X2_42 p_X2_7 0 hz8 rfl rfl rfl dX2_readRow_24 ?_
    refine G_iconst (v := 0) hc dX2_readRow_27 (by decide) ?_
    refine G_istore_n (lv' := [(0, .ref h_t), (1, .int (0 : Int32))]) hc dX2_readRow_28 rfl rfl ?_
    obtain ⟨e12, hl13, h⟩ := ob h
    have hK17 : G p l e (rmk 3) s m [.ref h_t].toArray below meth c D A 2 0 0 (QV below [.ref h_t].toArray s D A (PoV [(h_t, .inr (2, [.ref h_t_signs, .int t_length, .int t_word, .int t_kind, .int t_number, .int res.1, .int res.2.1, .int res.2.2])), (h_t_signs, .inl (cI, 60, .inl t_signs))])) [(h_t, .inr (2, [.ref h_t_signs, .int t_length, .int t_word, .int t_kind, .int t_number, .int e12.1, .int e12.2, .int t1])), (h_t_signs, .inl (cI, 60, .inl t_signs))] [] 91 [] := by
      have h := Option.some.inj h
      subst h
      exact G_return hc rfl dX2_readRow_91
    clear h
    have hL14 : ∀ (n15 : Nat) (u9 : Int32) (u10 : Int32) (u11 : Int32), f_X2_readRow_L29 F t_length t_signs t1 n15 u9 u10 u11 = some e12 → G p l e (rmk 3) s m [.ref h_t].toArray below meth c D A 2 0 0 (QV below [.ref h_t].toArray s D A (PoV [(h_t, .inr (2, [.ref h_t_signs, .int t_length, .int t_word, .int t_kind, .int t_number, .int res.1, .int res.2.1, .int res.2.2])), (h_t_signs, .inl (cI, 60, .inl t_signs))])) [(h_t, .inr (2, [.ref h_t_signs, .int t_length, .int t_word, .int t_kind, .int t_number, .int u10, .int u11, .int t1])), (h_t_signs, .inl (cI, 60, .inl t_signs))] [(0, .ref h_t), (1, .int u9)] 29 [] := by
      intro n15
      induction n15 with
      | zero =>
        intro u9 u10 u11 h
        exact nz h
      | succ n15 ih16 =>
        intro u9 u10 u11 h
        rw [f_X2_readRow_L29] at h
        refine G_iload_n hc dX2_readRow_29 rfl ?_
        refine G_bipush (v := 10) hc dX2_readRow_30 (by decide) ?_
        refine G_icmp_ge (tgt := 91) hc dX2_readRow_32 (by decide) (fun c28 => ?_) (fun c28 => ?_)
        · have h := ip h c28
          have h := Option.some.inj h
          subst h
          refine G_lv (lv' := []) lsame_nil ?_
          exact hK17
        · have h := inn h c28
          refine G_aload_n hc dX2_readRow_35 rfl ?_
          refine G_get hc f_X2_42 0 rfl rfl dX2_readRow_36 ?_
          refine G_if_ne (tgt := 91) hc dX2_readRow_39 (by decide) (fun c27 => ?_) (fun c27 => ?_)
          · have h := inn h c27
            have h := Option.some.inj h
            subst h
            refine G_lv (lv' := []) lsame_nil ?_
            exact hK17
          · have h := ip h c27
            refine G_aload_n hc dX2_readRow_42 rfl ?_
            refine G_bipush (v := 97) hc dX2_readRow_43 (by decide) ?_
            refine G_bipush (v := 100) hc dX2_readRow_45 (by decide) ?_
            obtain ⟨z18, hu19, h⟩ := ob h
            refine G_callVI (ws2 := [(h_t, .inr (2, [.ref h_t_signs, .int t_length, .int t_word, .int t_kind, .int t_number, .int u10, .int u11, .int t1])), (h_t_signs, .inl (cI, 60, .inl t_signs))]) hc m_X2_31 (c_X2_isBetween l D cI cS X F h_t h_t_signs t_length t_word t_kind t_number u10 u11 t1 t_signs (97 : Int32) (100 : Int32) hu19) 0 [0, 1] rfl rfl (rmok_of (Nat.le_of_ble_eq_true rfl)) ⟨Nat.zero_le _, Nat.zero_le _⟩ rfl rfl rfl rfl rfl ⟨rfl, rfl, rfl⟩ dX2_readRow_47 ?_
            refine G_if_eq (tgt := 91) hc dX2_readRow_50 (by decide) (fun c26 => ?_) (fun c26 => ?_)
            · have h := ip h c26
              have h := Option.some.inj h
              subst h
              refine G_lv (lv' := []) lsame_nil ?_
              exact hK17
            · have h := inn h c26
              refine G_aload_n hc dX2_readRow_53 rfl ?_
              refine G_aload_n hc dX2_readRow_54 rfl ?_
              refine G_get hc f_X2_25 0 rfl rfl dX2_readRow_55 ?_
              refine G_aload_n hc dX2_readRow_58 rfl ?_
              refine G_aload_n hc dX2_readRow_59 rfl ?_
              refine G_get hc f_X2_28 0 rfl rfl dX2_readRow_60 ?_
              obtain ⟨z20, hu21, h⟩ := ob h
              refine G_callVI (ws2 := [(h_t, .inr (2, [.ref h_t_signs, .int t_length, .int t_word, .int t_kind, .int t_number, .int u10, .int u11, .int t1])), (h_t_signs, .inl (cI, 60, .inl t_signs))]) hc m_X2_60 (c_X2_signAt l D cI cS X F h_t h_t_signs t_length t_word t_kind t_number u10 u11 t1 t_signs u11 hu21) 0 [0, 1] rfl rfl (rmok_of (Nat.le_of_ble_eq_true rfl)) ⟨Nat.zero_le _, Nat.zero_le _⟩ rfl rfl rfl rfl rfl ⟨rfl, rfl, rfl⟩ dX2_readRow_63 ?_
              refine G_bipush (v := 97) hc dX2_readRow_66 (by decide) ?_
              refine G_isub hc dX2_readRow_68 ?_
              obtain ⟨z22, hu23, h⟩ := ob h
              refine G_callNI (ws2 := [(h_t, .inr (2, [.ref h_t_signs, .int t_length, .int t_word, .int t_kind, .int t_number, .int u10, .int u11, .int t1])), (h_t_signs, .inl (cI, 60, .inl t_signs))]) hc m_X2_85 (c_X5_longer l D cI cS X F u10 (z20 - (97 : Int32)) hu23) [] (rmok_of (Nat.le_of_ble_eq_true rfl)) ⟨Nat.zero_le _, Nat.zero_le _⟩ rfl rfl rfl rfl rfl ⟨rfl, rfl, rfl⟩ dX2_readRow_69 ?_
              refine G_puti (ws' := [(h_t, .inr (2, [.ref h_t_signs, .int t_length, .int t_word, .int t_kind, .int t_number, .int z22, .int u11, .int t1])), (h_t_signs, .inl (cI, 60, .inl t_signs))]) hc f_X2_25 p_X2_5 0 rfl rfl rfl dX2_readRow_72 ?_
              refine G_aload_n hc dX2_readRow_75 rfl ?_
              refine G_dup hc dX2_readRow_76 rfl ?_
              refine G_get hc f_X2_28 0 rfl rfl dX2_readRow_77 ?_
              refine G_iconst (v := 1) hc dX2_readRow_80 (by decide) ?_
              refine G_iadd hc dX2_readRow_81 ?_
              obtain ⟨v24, e_v24, h⟩ := sb h
              refine G_top e_v24 ?_
              refine G_puti (ws' := [(h_t, .inr (2, [.ref h_t_signs, .int t_length, .int t_word, .int t_kind, .int t_number, .int z22, .int v24, .int t1])), (h_t_signs, .inl (cI, 60, .inl t_signs))]) hc f_X2_28 p_X2_6 0 rfl rfl rfl dX2_readRow_82 ?_
              obtain ⟨v25, e_v25, h⟩ := sb h
              refine G_iinc (v := v25) (lv' := [(0, .ref h_t), (1, .int v25)]) hc dX2_readRow_85 rfl (e_v25.trans rfl) rfl rfl ?_
              refine G_goto (tgt := 29) hc dX2_readRow_88 (by decide) ?_
              refine G_lv (lv' := [(0, .ref h_t), (1, .int v25)]) (lsame_cons rfl (lsame_cons rfl lsame_nil)) ?_
              exact ih16 _ _ _ h
    refine G_lv (lv' := [(0, .ref h_t), (1, .int (0 : Int32))]) (lsame_cons rfl (lsame_cons rfl lsame_nil)) ?_
    exact hL14 F _ _ _ hl13
  clear h
  have h := hr3
  clear hr3
  refine G_if_ne (tgt := 19) hc dX2_readRow_5 (by decide) (fun c7 => ?_) (fun c7 => ?_)
  · have h := inn h c7
    refine G_iconst (v := 1) hc dX2_readRow_19 (by decide) ?_
    refine G_goto (tgt := 24) hc dX2_readRow_20 (by decide) ?_
    have h := Option.some.inj h
    subst h
    refine G_lv (lv' := [(0, .ref h_t)]) (lsame_cons rfl lsame_nil) ?_
    exact hj2
  · have h := ip h c7
    refine G_aload_n hc dX2_readRow_8 rfl ?_
    refine G_bipush (v := 97) hc dX2_readRow_9 (by decide) ?_
    refine G_bipush (v := 100) hc dX2_readRow_11 (by decide) ?_
    obtain ⟨z4, hu5, h⟩ := ob h
    refine G_callVI (ws2 := [(h_t, .inr (2, [.ref h_t_signs, .int t_length, .int t_word, .int t_kind, .int t_number, .int t_row, .int t_reached, .int t_broken])), (h_t_signs, .inl (cI, 60, .inl t_signs))]) hc m_X2_31 (c_X2_isBetween l D cI cS X F h_t h_t_signs t_length t_word t_kind t_number t_row t_reached t_broken t_signs (97 : Int32) (100 : Int32) hu5) 0 [0, 1] rfl rfl (rmok_of (Nat.le_of_ble_eq_true rfl)) ⟨Nat.zero_le _, Nat.zero_le _⟩ rfl rfl rfl rfl rfl ⟨rfl, rfl, rfl⟩ dX2_readRow_13 ?_
    refine G_if_ne (tgt := 23) hc dX2_readRow_16 (by decide) (fun c6 => ?_) (fun c6 => ?_)
    · have h := inn h c6
      refine G_iconst (v := 0) hc dX2_readRow_23 (by decide) ?_
      have h := Option.some.inj h
      subst h
      refine G_lv (lv' := [(0, .ref h_t)]) (lsame_cons rfl lsame_nil) ?_
      exact hj2
    · have h := ip h c6
      refine G_iconst (v := 1) hc dX2_readRow_19 (by decide) ?_
      refine G_goto (tgt := 24) hc dX2_readRow_20 (by decide) ?_
      have h := Option.some.inj h
      subst h
      refine G_lv (lv' := [(0, .ref h_t)]) (lsame_cons rfl lsame_nil) ?_
      exact hj2
set_option maxHeartbeats 4000000 in
set_option maxRecDepth 100000 in
theorem c_X2_readDigit (l : Launch) (D : va_G) (cI cS : ClassId) (X : XP) (F : Nat) (h_t h_t_signs : Nat) (t_length : Int32) (t_word : Int32) (t_kind : Int32) (t_number : Int32) (t_row : Int32) (t_reached : Int32) (t_broken : Int32) (t_signs : Nat → Int32) {res : Int32 × Int32 × Int32} (h : f_X2_readDigit F t_length t_reached t_broken t_signs = some res) : CtI l D cI cS X yX2_readDigit cX2_readDigit 2 (some .int) 3 [.ref h_t] [(h_t, .inr (2, [.ref h_t_signs, .int t_length, .int t_word, .int t_kind, .int t_number, .int t_row, .int t_reached, .int t_broken])), (h_t_signs, .inl (cI, 60, .inl t_signs))] (PoI res.1 [(h_t, .inr (2, [.ref h_t_signs, .int t_length, .int t_word, .int t_kind, .int t_number, .int t_row, .int res.2.1, .int res.2.2])), (h_t_signs, .inl (cI, 60, .inl t_signs))]) := by
  refine CtI.of (by decide +kernel) rfl ?_
  intro p e s m below meth c A hc
  refine G_lv (lv' := [(0, .ref h_t)]) (lsame_cons rfl lsame_nil) ?_
  unfold f_X2_readDigit at h
  refine G_aload_n hc dX2_readDigit_0 rfl ?_
  refine G_get hc f_X2_42 0 rfl rfl dX2_readDigit_1 ?_
  refine G_if_ne (tgt := 18) hc dX2_readDigit_4 (by decide) (fun c8 => ?_) (fun c8 => ?_)
  · have h := inn h c8
    refine G_aload_n hc dX2_readDigit_18 rfl ?_
    refine G_iconst (v := 1) hc dX2_readDigit_19 (by decide) ?_
    refine G_putz (ws' := [(h_t, .inr (2, [.ref h_t_signs, .int t_length, .int t_word, .int t_kind, .int t_number, .int t_row, .int t_reached, .int (1 : Int32)])), (h_t_signs, .inl (cI, 60, .inl t_signs))]) hc f_X2_42 p_X2_7 0 (by decide) rfl rfl rfl dX2_readDigit_20 ?_
    refine G_iconst (v := 0) hc dX2_readDigit_23 (by decide) ?_
    have h := Option.some.inj h
    subst h
    exact G_ireturn hc ⟨rfl, rfl⟩ dX2_readDigit_24
  · have h := ip h c8
    refine G_aload_n hc dX2_readDigit_7 rfl ?_
    refine G_bipush (v := 48) hc dX2_readDigit_8 (by decide) ?_
    refine G_bipush (v := 57) hc dX2_readDigit_10 (by decide) ?_
    obtain ⟨z1, hu2, h⟩ := ob h
    refine G_callVI (ws2 := [(h_t, .inr (2, [.ref h_t_signs, .int t_length, .int t_word, .int t_kind, .int t_number, .int t_row, .int t_reached, .int t_broken])), (h_t_signs, .inl (cI, 60, .inl t_signs))]) hc m_X2_31 (c_X2_isBetween l D cI cS X F h_t h_t_signs t_length t_word t_kind t_number t_row t_reached t_broken t_signs (48 : Int32) (57 : Int32) hu2) 0 [0, 1] rfl rfl (rmok_of (Nat.le_of_ble_eq_true rfl)) ⟨Nat.zero_le _, Nat.zero_le _⟩ rfl rfl rfl rfl rfl ⟨rfl, rfl, rfl⟩ dX2_readDigit_12 ?_
    refine G_if_ne (tgt := 25) hc dX2_readDigit_15 (by decide) (fun c7 => ?_) (fun c7 => ?_)
    · have h := inn h c7
      refine G_aload_n hc dX2_readDigit_25 rfl ?_
      refine G_aload_n hc dX2_readDigit_26 rfl ?_
      refine G_get hc f_X2_28 0 rfl rfl dX2_readDigit_27 ?_
      obtain ⟨z3, hu4, h⟩ := ob h
      refine G_callVI (ws2 := [(h_t, .inr (2, [.ref h_t_signs, .int t_length, .int t_word, .int t_kind, .int t_number, .int t_row, .int t_reached, .int t_broken])), (h_t_signs, .inl (cI, 60, .inl t_signs))]) hc m_X2_60 (c_X2_signAt l D cI cS X F h_t h_t_signs t_length t_word t_kind t_number t_row t_reached t_broken t_signs t_reached hu4) 0 [0, 1] rfl rfl (rmok_of (Nat.le_of_ble_eq_true rfl)) ⟨Nat.zero_le _, Nat.zero_le _⟩ rfl rfl rfl rfl rfl ⟨rfl, rfl, rfl⟩ dX2_readDigit_30 ?_
      refine G_bipush (v := 48) hc dX2_readDigit_33 (by decide) ?_
      refine G_isub hc dX2_readDigit_35 ?_
      obtain ⟨v5, e_v5, h⟩ := sb h
      refine G_top e_v5 ?_
      refine G_istore_n (lv' := [(0, .ref h_t), (1, .int v5)]) hc dX2_readDigit_36 rfl rfl ?_
      refine G_aload_n hc dX2_readDigit_37 rfl ?_
      refine G_dup hc dX2_readDigit_38 rfl ?_
      refine G_get hc f_X2_28 0 rfl rfl dX2_readDigit_39 ?_
      refine G_iconst (v := 1) hc dX2_readDigit_42 (by decide) ?_
      refine G_iadd hc dX2_readDigit_43 ?_
      obtain ⟨v6, e_v6, h⟩ := sb h
      refine G_top e_v6 ?_
      refine G_puti (ws' := [(h_t, .inr (2, [.ref h_t_signs, .int t_length, .int t_word, .int t_kind, .int t_number, .int t_row, .int v6, .int t_broken])), (h_t_signs, .inl (cI, 60, .inl t_signs))]) hc f_X2_28 p_X2_6 0 rfl rfl rfl dX2_readDigit_44 ?_
      refine G_iload_n hc dX2_readDigit_47 rfl ?_
      have h := Option.some.inj h
      subst h
      exact G_ireturn hc ⟨rfl, rfl⟩ dX2_readDigit_48
    · have h := ip h c7
      refine G_aload_n hc dX2_readDigit_18 rfl ?_
      refine G_iconst (v := 1) hc dX2_readDigit_19 (by decide) ?_
      refine G_putz (ws' := [(h_t, .inr (2, [.ref h_t_signs, .int t_length, .int t_word, .int t_kind, .int t_number, .int t_row, .int t_reached, .int (1 : Int32)])), (h_t_signs, .inl (cI, 60, .inl t_signs))]) hc f_X2_42 p_X2_7 0 (by decide) rfl rfl rfl dX2_readDigit_20 ?_
      refine G_iconst (v := 0) hc dX2_readDigit_23 (by decide) ?_
      have h := Option.some.inj h
      subst h
      exact G_ireturn hc ⟨rfl, rfl⟩ dX2_readDigit_24
set_option maxHeartbeats 4000000 in
set_option maxRecDepth 100000 in
theorem c_X2_readNumber (l : Launch) (D : va_G) (cI cS : ClassId) (X : XP) (F : Nat) (h_t h_t_signs : Nat) (t_length : Int32) (t_word : Int32) (t_kind : Int32) (t_number : Int32) (t_row : Int32) (t_reached : Int32) (t_broken : Int32) (t_signs : Nat → Int32) {res : Int32 × Int32 × Int32} (h : f_X2_readNumber F t_length t_reached t_broken t_signs = some res) : CtV l D cI cS X yX2_readNumber cX2_readNumber 2 4 [.ref h_t] [(h_t, .inr (2, [.ref h_t_signs, .int t_length, .int t_word, .int t_kind, .int t_number, .int t_row, .int t_reached, .int t_broken])), (h_t_signs, .inl (cI, 60, .inl t_signs))] (PoV [(h_t, .inr (2, [.ref h_t_signs, .int t_length, .int t_word, .int t_kind, .int res.1, .int t_row, .int res.2.1, .int res.2.2])), (h_t_signs, .inl (cI, 60, .inl t_signs))]) := by
  refine CtV.of (by decide +kernel) rfl ?_
  intro p e s m below meth c A hc
  refine G_lv (lv' := [(0, .ref h_t)]) (lsame_cons rfl lsame_nil) ?_
  unfold f_X2_readNumber at h
  refine G_aload_n hc dX2_readNumber_0 rfl ?_
  refine G_aload_n hc dX2_readNumber_1 rfl ?_
  obtain ⟨z1, hu2, h⟩ := ob h
  refine G_callVI (ws2 := [(h_t, .inr (2, [.ref h_t_signs, .int t_length, .int t_word, .int t_kind, .int t_number, .int t_row, .int z1.2.1, .int z1.2.2])), (h_t_signs, .inl (cI, 60, .inl t_signs))]) hc m_X2_53 (c_X2_readDigit l D cI cS X F h_t h_t_signs t_length t_word t_kind t_number t_row t_reached t_broken t_signs hu2) 0 [0, 1] rfl rfl (rmok_of (Nat.le_of_ble_eq_true rfl)) ⟨Nat.zero_le _, Nat.zero_le _⟩ rfl rfl rfl rfl rfl ⟨rfl, rfl, rfl⟩ dX2_readNumber_2 ?_
  refine G_puti (ws' := [(h_t, .inr (2, [.ref h_t_signs, .int t_length, .int t_word, .int t_kind, .int z1.1, .int t_row, .int z1.2.1, .int z1.2.2])), (h_t_signs, .inl (cI, 60, .inl t_signs))]) hc f_X2_22 p_X2_4 0 rfl rfl rfl dX2_readNumber_5 ?_
  refine G_iconst (v := 1) hc dX2_readNumber_8 (by decide) ?_
  refine G_istore_n (lv' := [(0, .ref h_t), (1, .int (1 : Int32))]) hc dX2_readNumber_9 rfl rfl ?_
  obtain ⟨e7, hl8, h⟩ := ob h
  have hK12 : G p l e (rmk 4) s m [.ref h_t].toArray below meth c D A 2 0 0 (QV below [.ref h_t].toArray s D A (PoV [(h_t, .inr (2, [.ref h_t_signs, .int t_length, .int t_word, .int t_kind, .int res.1, .int t_row, .int res.2.1, .int res.2.2])), (h_t_signs, .inl (cI, 60, .inl t_signs))])) [(h_t, .inr (2, [.ref h_t_signs, .int t_length, .int t_word, .int t_kind, .int e7.1, .int t_row, .int e7.2.1, .int e7.2.2])), (h_t_signs, .inl (cI, 60, .inl t_signs))] [] 56 [] := by
    have h := Option.some.inj h
    subst h
    exact G_return hc rfl dX2_readNumber_56
  clear h
  have hL9 : ∀ (n10 : Nat) (u3 : Int32) (u4 : Int32) (u5 : Int32) (u6 : Int32), f_X2_readNumber_L10 F t_length t_signs n10 u3 u4 u5 u6 = some e7 → G p l e (rmk 4) s m [.ref h_t].toArray below meth c D A 2 0 0 (QV below [.ref h_t].toArray s D A (PoV [(h_t, .inr (2, [.ref h_t_signs, .int t_length, .int t_word, .int t_kind, .int res.1, .int t_row, .int res.2.1, .int res.2.2])), (h_t_signs, .inl (cI, 60, .inl t_signs))])) [(h_t, .inr (2, [.ref h_t_signs, .int t_length, .int t_word, .int t_kind, .int u4, .int t_row, .int u5, .int u6])), (h_t_signs, .inl (cI, 60, .inl t_signs))] [(0, .ref h_t), (1, .int u3)] 10 [] := by
    intro n10
    induction n10 with
    | zero =>
      intro u3 u4 u5 u6 h
      exact nz h
    | succ n10 ih11 =>
      intro u3 u4 u5 u6 h
      rw [f_X2_readNumber_L10] at h
      refine G_iload_n hc dX2_readNumber_10 rfl ?_
      refine G_bipush (v := 6) hc dX2_readNumber_11 (by decide) ?_
      refine G_icmp_ge (tgt := 56) hc dX2_readNumber_13 (by decide) (fun c21 => ?_) (fun c21 => ?_)
      · have h := ip h c21
        have h := Option.some.inj h
        subst h
        refine G_lv (lv' := []) lsame_nil ?_
        exact hK12
      · have h := inn h c21
        refine G_aload_n hc dX2_readNumber_16 rfl ?_
        refine G_get hc f_X2_42 0 rfl rfl dX2_readNumber_17 ?_
        refine G_if_ne (tgt := 56) hc dX2_readNumber_20 (by decide) (fun c20 => ?_) (fun c20 => ?_)
        · have h := inn h c20
          have h := Option.some.inj h
          subst h
          refine G_lv (lv' := []) lsame_nil ?_
          exact hK12
        · have h := ip h c20
          refine G_aload_n hc dX2_readNumber_23 rfl ?_
          refine G_bipush (v := 48) hc dX2_readNumber_24 (by decide) ?_
          refine G_bipush (v := 57) hc dX2_readNumber_26 (by decide) ?_
          obtain ⟨z13, hu14, h⟩ := ob h
          refine G_callVI (ws2 := [(h_t, .inr (2, [.ref h_t_signs, .int t_length, .int t_word, .int t_kind, .int u4, .int t_row, .int u5, .int u6])), (h_t_signs, .inl (cI, 60, .inl t_signs))]) hc m_X2_31 (c_X2_isBetween l D cI cS X F h_t h_t_signs t_length t_word t_kind u4 t_row u5 u6 t_signs (48 : Int32) (57 : Int32) hu14) 0 [0, 1] rfl rfl (rmok_of (Nat.le_of_ble_eq_true rfl)) ⟨Nat.zero_le _, Nat.zero_le _⟩ rfl rfl rfl rfl rfl ⟨rfl, rfl, rfl⟩ dX2_readNumber_28 ?_
          refine G_if_eq (tgt := 56) hc dX2_readNumber_31 (by decide) (fun c19 => ?_) (fun c19 => ?_)
          · have h := ip h c19
            have h := Option.some.inj h
            subst h
            refine G_lv (lv' := []) lsame_nil ?_
            exact hK12
          · have h := inn h c19
            refine G_aload_n hc dX2_readNumber_34 rfl ?_
            refine G_bipush (v := 10) hc dX2_readNumber_35 (by decide) ?_
            refine G_aload_n hc dX2_readNumber_37 rfl ?_
            refine G_get hc f_X2_22 0 rfl rfl dX2_readNumber_38 ?_
            refine G_imul hc dX2_readNumber_41 ?_
            refine G_aload_n hc dX2_readNumber_42 rfl ?_
            obtain ⟨z15, hu16, h⟩ := ob h
            refine G_callVI (ws2 := [(h_t, .inr (2, [.ref h_t_signs, .int t_length, .int t_word, .int t_kind, .int u4, .int t_row, .int z15.2.1, .int z15.2.2])), (h_t_signs, .inl (cI, 60, .inl t_signs))]) hc m_X2_53 (c_X2_readDigit l D cI cS X F h_t h_t_signs t_length t_word t_kind u4 t_row u5 u6 t_signs hu16) 0 [0, 1] rfl rfl (rmok_of (Nat.le_of_ble_eq_true rfl)) ⟨Nat.zero_le _, Nat.zero_le _⟩ rfl rfl rfl rfl rfl ⟨rfl, rfl, rfl⟩ dX2_readNumber_43 ?_
            refine G_iadd hc dX2_readNumber_46 ?_
            obtain ⟨v17, e_v17, h⟩ := sb h
            refine G_top e_v17 ?_
            refine G_puti (ws' := [(h_t, .inr (2, [.ref h_t_signs, .int t_length, .int t_word, .int t_kind, .int v17, .int t_row, .int z15.2.1, .int z15.2.2])), (h_t_signs, .inl (cI, 60, .inl t_signs))]) hc f_X2_22 p_X2_4 0 rfl rfl rfl dX2_readNumber_47 ?_
            obtain ⟨v18, e_v18, h⟩ := sb h
            refine G_iinc (v := v18) (lv' := [(0, .ref h_t), (1, .int v18)]) hc dX2_readNumber_50 rfl (e_v18.trans rfl) rfl rfl ?_
            refine G_goto (tgt := 10) hc dX2_readNumber_53 (by decide) ?_
            refine G_lv (lv' := [(0, .ref h_t), (1, .int v18)]) (lsame_cons rfl (lsame_cons rfl lsame_nil)) ?_
            exact ih11 _ _ _ _ h
  refine G_lv (lv' := [(0, .ref h_t), (1, .int (1 : Int32))]) (lsame_cons rfl (lsame_cons rfl lsame_nil)) ?_
  exact hL9 F _ _ _ _ hl8
set_option maxHeartbeats 4000000 in
set_option maxRecDepth 100000 in
theorem c_X2_read (l : Launch) (D : va_G) (cI cS : ClassId) (X : XP) (F : Nat) (h_t h_t_signs : Nat) (t_length : Int32) (t_word : Int32) (t_kind : Int32) (t_number : Int32) (t_row : Int32) (t_reached : Int32) (t_broken : Int32) (t_signs : Nat → Int32) (a1 : Int32) {res : Int32 × Int32 × Int32 × Int32 × Int32 × Int32} (h : f_X2_read F t_length t_signs a1 = some res) : CtV l D cI cS X yX2_read cX2_read 2 7 [.ref h_t, .int a1] [(h_t, .inr (2, [.ref h_t_signs, .int t_length, .int t_word, .int t_kind, .int t_number, .int t_row, .int t_reached, .int t_broken])), (h_t_signs, .inl (cI, 60, .inl t_signs))] (PoV [(h_t, .inr (2, [.ref h_t_signs, .int t_length, .int res.1, .int res.2.1, .int res.2.2.1, .int res.2.2.2.1, .int res.2.2.2.2.1, .int res.2.2.2.2.2])), (h_t_signs, .inl (cI, 60, .inl t_signs))]) := by
  refine CtV.of (by decide +kernel) rfl ?_
  intro p e s m below meth c A hc
  refine G_lv (lv' := [(0, .ref h_t), (1, .int a1)]) (lsame_cons rfl (lsame_cons rfl lsame_nil)) ?_
  unfold f_X2_read at h
  refine G_aload_n hc dX2_read_0 rfl ?_
  refine G_iconst (v := 0) hc dX2_read_1 (by decide) ?_
  refine G_puti (ws' := [(h_t, .inr (2, [.ref h_t_signs, .int t_length, .int t_word, .int (0 : Int32), .int t_number, .int t_row, .int t_reached, .int t_broken])), (h_t_signs, .inl (cI, 60, .inl t_signs))]) hc f_X2_19 p_X2_3 0 rfl rfl rfl dX2_read_2 ?_
  refine G_aload_n hc dX2_read_5 rfl ?_
  refine G_iconst (v := 0) hc dX2_read_6 (by decide) ?_
  refine G_puti (ws' := [(h_t, .inr (2, [.ref h_t_signs, .int t_length, .int t_word, .int (0 : Int32), .int (0 : Int32), .int t_row, .int t_reached, .int t_broken])), (h_t_signs, .inl (cI, 60, .inl t_signs))]) hc f_X2_22 p_X2_4 0 rfl rfl rfl dX2_read_7 ?_
  refine G_aload_n hc dX2_read_10 rfl ?_
  refine G_iconst (v := 0) hc dX2_read_11 (by decide) ?_
  refine G_puti (ws' := [(h_t, .inr (2, [.ref h_t_signs, .int t_length, .int t_word, .int (0 : Int32), .int (0 : Int32), .int (0 : Int32), .int t_reached, .int t_broken])), (h_t_signs, .inl (cI, 60, .inl t_signs))]) hc f_X2_25 p_X2_5 0 rfl rfl rfl dX2_read_12 ?_
  refine G_aload_n hc dX2_read_15 rfl ?_
  refine G_iload_n hc dX2_read_16 rfl ?_
  refine G_puti (ws' := [(h_t, .inr (2, [.ref h_t_signs, .int t_length, .int t_word, .int (0 : Int32), .int (0 : Int32), .int (0 : Int32), .int a1, .int t_broken])), (h_t_signs, .inl (cI, 60, .inl t_signs))]) hc f_X2_28 p_X2_6 0 rfl rfl rfl dX2_read_17 ?_
  obtain ⟨e2, hl3, h⟩ := ob h
  have hK7 : G p l e (rmk 7) s m [.ref h_t, .int a1].toArray below meth c D A 2 0 0 (QV below [.ref h_t, .int a1].toArray s D A (PoV [(h_t, .inr (2, [.ref h_t_signs, .int t_length, .int res.1, .int res.2.1, .int res.2.2.1, .int res.2.2.2.1, .int res.2.2.2.2.1, .int res.2.2.2.2.2])), (h_t_signs, .inl (cI, 60, .inl t_signs))])) [(h_t, .inr (2, [.ref h_t_signs, .int t_length, .int t_word, .int (0 : Int32), .int (0 : Int32), .int (0 : Int32), .int e2, .int t_broken])), (h_t_signs, .inl (cI, 60, .inl t_signs))] [(0, .ref h_t), (1, .int a1)] 55 [] := by
    refine G_aload_n hc dX2_read_55 rfl ?_
    refine G_aload_n hc dX2_read_56 rfl ?_
    refine G_iload_n hc dX2_read_57 rfl ?_
    refine G_aload_n hc dX2_read_58 rfl ?_
    refine G_get hc f_X2_28 0 rfl rfl dX2_read_59 ?_
    obtain ⟨z13, hu14, h⟩ := ob h
    refine G_callVI (ws2 := [(h_t, .inr (2, [.ref h_t_signs, .int t_length, .int t_word, .int (0 : Int32), .int (0 : Int32), .int (0 : Int32), .int e2, .int t_broken])), (h_t_signs, .inl (cI, 60, .inl t_signs))]) hc m_X2_35 (c_X2_wordBetween l D cI cS X F h_t h_t_signs t_length t_word (0 : Int32) (0 : Int32) (0 : Int32) e2 t_broken t_signs a1 e2 hu14) 0 [0, 1] rfl rfl (rmok_of (Nat.le_of_ble_eq_true rfl)) ⟨Nat.zero_le _, Nat.zero_le _⟩ rfl rfl rfl rfl rfl ⟨rfl, rfl, rfl⟩ dX2_read_62 ?_
    refine G_puti (ws' := [(h_t, .inr (2, [.ref h_t_signs, .int t_length, .int z13, .int (0 : Int32), .int (0 : Int32), .int (0 : Int32), .int e2, .int t_broken])), (h_t_signs, .inl (cI, 60, .inl t_signs))]) hc f_X2_39 p_X2_2 0 rfl rfl rfl dX2_read_65 ?_
    refine G_aload_n hc dX2_read_68 rfl ?_
    refine G_aload_n hc dX2_read_69 rfl ?_
    refine G_get hc f_X2_39 0 rfl rfl dX2_read_70 ?_
    obtain ⟨t15, hr17, h⟩ := ob h
    have hj16 : G p l e (rmk 7) s m [.ref h_t, .int a1].toArray below meth c D A 2 0 0 (QV below [.ref h_t, .int a1].toArray s D A (PoV [(h_t, .inr (2, [.ref h_t_signs, .int t_length, .int res.1, .int res.2.1, .int res.2.2.1, .int res.2.2.2.1, .int res.2.2.2.2.1, .int res.2.2.2.2.2])), (h_t_signs, .inl (cI, 60, .inl t_signs))])) [(h_t, .inr (2, [.ref h_t_signs, .int t_length, .int z13, .int (0 : Int32), .int (0 : Int32), .int (0 : Int32), .int e2, .int t_broken])), (h_t_signs, .inl (cI, 60, .inl t_signs))] [(0, .ref h_t)] 81 [.int t15, .ref h_t] := by
      obtain ⟨hz19, h⟩ := zb h
      refine G_putz (ws' := [(h_t, .inr (2, [.ref h_t_signs, .int t_length, .int z13, .int (0 : Int32), .int (0 : Int32), .int (0 : Int32), .int e2, .int t15])), (h_t_signs, .inl (cI, 60, .inl t_signs))]) hc f_X2_42 p_X2_7 0 hz19 rfl rfl rfl dX2_read_81 ?_
      refine G_aload_n hc dX2_read_84 rfl ?_
      refine G_get hc f_X2_39 0 rfl rfl dX2_read_85 ?_
      obtain ⟨t20, hr22, h⟩ := ob h
      have hj21 : G p l e (rmk 7) s m [.ref h_t, .int a1].toArray below meth c D A 2 0 0 (QV below [.ref h_t, .int a1].toArray s D A (PoV [(h_t, .inr (2, [.ref h_t_signs, .int t_length, .int res.1, .int res.2.1, .int res.2.2.1, .int res.2.2.2.1, .int res.2.2.2.2.1, .int res.2.2.2.2.2])), (h_t_signs, .inl (cI, 60, .inl t_signs))])) [(h_t, .inr (2, [.ref h_t_signs, .int t_length, .int z13, .int t20.1, .int t20.2.1, .int t20.2.2.1, .int t20.2.2.2.1, .int t20.2.2.2.2])), (h_t_signs, .inl (cI, 60, .inl t_signs))] [(0, .ref h_t)] 177 [] := by
        refine G_aload_n hc dX2_read_177 rfl ?_
        refine G_bipush (v := 59) hc dX2_read_178 (by decide) ?_
        obtain ⟨z43, hu44, h⟩ := ob h
        refine G_callVV (ws2 := [(h_t, .inr (2, [.ref h_t_signs, .int t_length, .int z13, .int t20.1, .int t20.2.1, .int t20.2.2.1, .int z43.1, .int z43.2])), (h_t_signs, .inl (cI, 60, .inl t_signs))]) hc m_X2_46 (c_X2_readSign l D cI cS X F h_t h_t_signs t_length z13 t20.1 t20.2.1 t20.2.2.1 t20.2.2.2.1 t20.2.2.2.2 t_signs (59 : Int32) hu44) 0 [0, 1] rfl rfl (rmok_of (Nat.le_of_ble_eq_true rfl)) ⟨Nat.zero_le _, Nat.zero_le _⟩ rfl rfl rfl rfl rfl ⟨rfl, rfl, rfl⟩ dX2_read_180 ?_
        have h := Option.some.inj h
        subst h
        exact G_return hc rfl dX2_read_183
      clear h
      have h := hr22
      clear hr22
      by_cases c23 : z13 = (1 : Int32)
      · have h := ip h c23
        refine G_tableIn (tgt := 120) hc dX2_read_88 (1 : Int32) c23 (by decide) (by decide) rfl (by decide) ?_
        refine G_aload_n hc dX2_read_120 rfl ?_
        refine G_bipush (v := 32) hc dX2_read_121 (by decide) ?_
        obtain ⟨z24, hu25, h⟩ := ob h
        refine G_callVV (ws2 := [(h_t, .inr (2, [.ref h_t_signs, .int t_length, .int z13, .int (0 : Int32), .int (0 : Int32), .int (0 : Int32), .int z24.1, .int z24.2])), (h_t_signs, .inl (cI, 60, .inl t_signs))]) hc m_X2_46 (c_X2_readSign l D cI cS X F h_t h_t_signs t_length z13 (0 : Int32) (0 : Int32) (0 : Int32) e2 t15 t_signs (32 : Int32) hu25) 0 [0, 1] rfl rfl (rmok_of (Nat.le_of_ble_eq_true rfl)) ⟨Nat.zero_le _, Nat.zero_le _⟩ rfl rfl rfl rfl rfl ⟨rfl, rfl, rfl⟩ dX2_read_123 ?_
        refine G_aload_n hc dX2_read_126 rfl ?_
        obtain ⟨z26, hu27, h⟩ := ob h
        refine G_callVV (ws2 := [(h_t, .inr (2, [.ref h_t_signs, .int t_length, .int z13, .int (0 : Int32), .int (0 : Int32), .int z26.1, .int z26.2.1, .int z26.2.2])), (h_t_signs, .inl (cI, 60, .inl t_signs))]) hc m_X2_50 (c_X2_readRow l D cI cS X F h_t h_t_signs t_length z13 (0 : Int32) (0 : Int32) (0 : Int32) z24.1 z24.2 t_signs hu27) 0 [0, 1] rfl rfl (rmok_of (Nat.le_of_ble_eq_true rfl)) ⟨Nat.zero_le _, Nat.zero_le _⟩ rfl rfl rfl rfl rfl ⟨rfl, rfl, rfl⟩ dX2_read_127 ?_
        refine G_goto (tgt := 177) hc dX2_read_130 (by decide) ?_
        have h := Option.some.inj h
        subst h
        refine G_lv (lv' := [(0, .ref h_t)]) (lsame_cons rfl lsame_nil) ?_
        exact hj21
      · have h := inn h c23
        by_cases c28 : z13 = (2 : Int32)
        · have h := ip h c28
          refine G_tableIn (tgt := 177) hc dX2_read_88 (2 : Int32) c28 (by decide) (by decide) rfl (by decide) ?_
          have h := Option.some.inj h
          subst h
          refine G_lv (lv' := [(0, .ref h_t)]) (lsame_cons rfl lsame_nil) ?_
          exact hj21
        · have h := inn h c28
          by_cases c29 : z13 = (3 : Int32)
          · have h := ip h c29
            refine G_tableIn (tgt := 133) hc dX2_read_88 (3 : Int32) c29 (by decide) (by decide) rfl (by decide) ?_
            refine G_aload_n hc dX2_read_133 rfl ?_
            refine G_bipush (v := 32) hc dX2_read_134 (by decide) ?_
            obtain ⟨z30, hu31, h⟩ := ob h
            refine G_callVV (ws2 := [(h_t, .inr (2, [.ref h_t_signs, .int t_length, .int z13, .int (0 : Int32), .int (0 : Int32), .int (0 : Int32), .int z30.1, .int z30.2])), (h_t_signs, .inl (cI, 60, .inl t_signs))]) hc m_X2_46 (c_X2_readSign l D cI cS X F h_t h_t_signs t_length z13 (0 : Int32) (0 : Int32) (0 : Int32) e2 t15 t_signs (32 : Int32) hu31) 0 [0, 1] rfl rfl (rmok_of (Nat.le_of_ble_eq_true rfl)) ⟨Nat.zero_le _, Nat.zero_le _⟩ rfl rfl rfl rfl rfl ⟨rfl, rfl, rfl⟩ dX2_read_136 ?_
            refine G_aload_n hc dX2_read_139 rfl ?_
            refine G_aload_n hc dX2_read_140 rfl ?_
            obtain ⟨z32, hu33, h⟩ := ob h
            refine G_callVI (ws2 := [(h_t, .inr (2, [.ref h_t_signs, .int t_length, .int z13, .int (0 : Int32), .int (0 : Int32), .int (0 : Int32), .int z32.2.1, .int z32.2.2])), (h_t_signs, .inl (cI, 60, .inl t_signs))]) hc m_X2_53 (c_X2_readDigit l D cI cS X F h_t h_t_signs t_length z13 (0 : Int32) (0 : Int32) (0 : Int32) z30.1 z30.2 t_signs hu33) 0 [0, 1] rfl rfl (rmok_of (Nat.le_of_ble_eq_true rfl)) ⟨Nat.zero_le _, Nat.zero_le _⟩ rfl rfl rfl rfl rfl ⟨rfl, rfl, rfl⟩ dX2_read_141 ?_
            refine G_puti (ws' := [(h_t, .inr (2, [.ref h_t_signs, .int t_length, .int z13, .int z32.1, .int (0 : Int32), .int (0 : Int32), .int z32.2.1, .int z32.2.2])), (h_t_signs, .inl (cI, 60, .inl t_signs))]) hc f_X2_19 p_X2_3 0 rfl rfl rfl dX2_read_144 ?_
            refine G_goto (tgt := 177) hc dX2_read_147 (by decide) ?_
            have h := Option.some.inj h
            subst h
            refine G_lv (lv' := [(0, .ref h_t)]) (lsame_cons rfl lsame_nil) ?_
            exact hj21
          · have h := inn h c29
            by_cases c34 : z13 = (4 : Int32)
            · have h := ip h c34
              refine G_tableIn (tgt := 150) hc dX2_read_88 (4 : Int32) c34 (by decide) (by decide) rfl (by decide) ?_
              refine G_aload_n hc dX2_read_150 rfl ?_
              refine G_bipush (v := 32) hc dX2_read_151 (by decide) ?_
              obtain ⟨z35, hu36, h⟩ := ob h
              refine G_callVV (ws2 := [(h_t, .inr (2, [.ref h_t_signs, .int t_length, .int z13, .int (0 : Int32), .int (0 : Int32), .int (0 : Int32), .int z35.1, .int z35.2])), (h_t_signs, .inl (cI, 60, .inl t_signs))]) hc m_X2_46 (c_X2_readSign l D cI cS X F h_t h_t_signs t_length z13 (0 : Int32) (0 : Int32) (0 : Int32) e2 t15 t_signs (32 : Int32) hu36) 0 [0, 1] rfl rfl (rmok_of (Nat.le_of_ble_eq_true rfl)) ⟨Nat.zero_le _, Nat.zero_le _⟩ rfl rfl rfl rfl rfl ⟨rfl, rfl, rfl⟩ dX2_read_153 ?_
              refine G_aload_n hc dX2_read_156 rfl ?_
              refine G_aload_n hc dX2_read_157 rfl ?_
              obtain ⟨z37, hu38, h⟩ := ob h
              refine G_callVI (ws2 := [(h_t, .inr (2, [.ref h_t_signs, .int t_length, .int z13, .int (0 : Int32), .int (0 : Int32), .int (0 : Int32), .int z37.2.1, .int z37.2.2])), (h_t_signs, .inl (cI, 60, .inl t_signs))]) hc m_X2_53 (c_X2_readDigit l D cI cS X F h_t h_t_signs t_length z13 (0 : Int32) (0 : Int32) (0 : Int32) z35.1 z35.2 t_signs hu38) 0 [0, 1] rfl rfl (rmok_of (Nat.le_of_ble_eq_true rfl)) ⟨Nat.zero_le _, Nat.zero_le _⟩ rfl rfl rfl rfl rfl ⟨rfl, rfl, rfl⟩ dX2_read_158 ?_
              refine G_puti (ws' := [(h_t, .inr (2, [.ref h_t_signs, .int t_length, .int z13, .int z37.1, .int (0 : Int32), .int (0 : Int32), .int z37.2.1, .int z37.2.2])), (h_t_signs, .inl (cI, 60, .inl t_signs))]) hc f_X2_19 p_X2_3 0 rfl rfl rfl dX2_read_161 ?_
              refine G_aload_n hc dX2_read_164 rfl ?_
              refine G_bipush (v := 32) hc dX2_read_165 (by decide) ?_
              obtain ⟨z39, hu40, h⟩ := ob h
              refine G_callVV (ws2 := [(h_t, .inr (2, [.ref h_t_signs, .int t_length, .int z13, .int z37.1, .int (0 : Int32), .int (0 : Int32), .int z39.1, .int z39.2])), (h_t_signs, .inl (cI, 60, .inl t_signs))]) hc m_X2_46 (c_X2_readSign l D cI cS X F h_t h_t_signs t_length z13 z37.1 (0 : Int32) (0 : Int32) z37.2.1 z37.2.2 t_signs (32 : Int32) hu40) 0 [0, 1] rfl rfl (rmok_of (Nat.le_of_ble_eq_true rfl)) ⟨Nat.zero_le _, Nat.zero_le _⟩ rfl rfl rfl rfl rfl ⟨rfl, rfl, rfl⟩ dX2_read_167 ?_
              refine G_aload_n hc dX2_read_170 rfl ?_
              obtain ⟨z41, hu42, h⟩ := ob h
              refine G_callVV (ws2 := [(h_t, .inr (2, [.ref h_t_signs, .int t_length, .int z13, .int z37.1, .int z41.1, .int (0 : Int32), .int z41.2.1, .int z41.2.2])), (h_t_signs, .inl (cI, 60, .inl t_signs))]) hc m_X2_57 (c_X2_readNumber l D cI cS X F h_t h_t_signs t_length z13 z37.1 (0 : Int32) (0 : Int32) z39.1 z39.2 t_signs hu42) 0 [0, 1] rfl rfl (rmok_of (Nat.le_of_ble_eq_true rfl)) ⟨Nat.zero_le _, Nat.zero_le _⟩ rfl rfl rfl rfl rfl ⟨rfl, rfl, rfl⟩ dX2_read_171 ?_
              refine G_goto (tgt := 177) hc dX2_read_174 (by decide) ?_
              have h := Option.some.inj h
              subst h
              refine G_lv (lv' := [(0, .ref h_t)]) (lsame_cons rfl lsame_nil) ?_
              exact hj21
            · have h := inn h c34
              refine G_tableOut (tgt := 177) hc dX2_read_88 (sw_out_1_4 c23 c28 c29 c34) (by decide) ?_
              have h := Option.some.inj h
              subst h
              refine G_lv (lv' := [(0, .ref h_t)]) (lsame_cons rfl lsame_nil) ?_
              exact hj21
    clear h
    have h := hr17
    clear hr17
    refine G_if_ne (tgt := 80) hc dX2_read_73 (by decide) (fun c18 => ?_) (fun c18 => ?_)
    · have h := inn h c18
      refine G_iconst (v := 0) hc dX2_read_80 (by decide) ?_
      have h := Option.some.inj h
      subst h
      refine G_lv (lv' := [(0, .ref h_t)]) (lsame_cons rfl lsame_nil) ?_
      exact hj16
    · have h := ip h c18
      refine G_iconst (v := 1) hc dX2_read_76 (by decide) ?_
      refine G_goto (tgt := 81) hc dX2_read_77 (by decide) ?_
      have h := Option.some.inj h
      subst h
      refine G_lv (lv' := [(0, .ref h_t)]) (lsame_cons rfl lsame_nil) ?_
      exact hj16
  clear h
  have hL4 : ∀ (n5 : Nat) (u1 : Int32), f_X2_read_L20 F t_length t_signs n5 u1 = some e2 → G p l e (rmk 7) s m [.ref h_t, .int a1].toArray below meth c D A 2 0 0 (QV below [.ref h_t, .int a1].toArray s D A (PoV [(h_t, .inr (2, [.ref h_t_signs, .int t_length, .int res.1, .int res.2.1, .int res.2.2.1, .int res.2.2.2.1, .int res.2.2.2.2.1, .int res.2.2.2.2.2])), (h_t_signs, .inl (cI, 60, .inl t_signs))])) [(h_t, .inr (2, [.ref h_t_signs, .int t_length, .int t_word, .int (0 : Int32), .int (0 : Int32), .int (0 : Int32), .int u1, .int t_broken])), (h_t_signs, .inl (cI, 60, .inl t_signs))] [(0, .ref h_t), (1, .int a1)] 20 [] := by
    intro n5
    induction n5 with
    | zero =>
      intro u1 h
      exact nz h
    | succ n5 ih6 =>
      intro u1 h
      rw [f_X2_read_L20] at h
      refine G_aload_n hc dX2_read_20 rfl ?_
      refine G_get hc f_X2_28 0 rfl rfl dX2_read_21 ?_
      refine G_aload_n hc dX2_read_24 rfl ?_
      refine G_get hc f_X2_15 0 rfl rfl dX2_read_25 ?_
      refine G_icmp_ge (tgt := 55) hc dX2_read_28 (by decide) (fun c12 => ?_) (fun c12 => ?_)
      · have h := ip h c12
        have h := Option.some.inj h
        subst h
        refine G_lv (lv' := [(0, .ref h_t), (1, .int a1)]) (lsame_cons rfl (lsame_cons rfl lsame_nil)) ?_
        exact hK7
      · have h := inn h c12
        refine G_aload_n hc dX2_read_31 rfl ?_
        refine G_bipush (v := 97) hc dX2_read_32 (by decide) ?_
        refine G_bipush (v := 122) hc dX2_read_34 (by decide) ?_
        obtain ⟨z8, hu9, h⟩ := ob h
        refine G_callVI (ws2 := [(h_t, .inr (2, [.ref h_t_signs, .int t_length, .int t_word, .int (0 : Int32), .int (0 : Int32), .int (0 : Int32), .int u1, .int t_broken])), (h_t_signs, .inl (cI, 60, .inl t_signs))]) hc m_X2_31 (c_X2_isBetween l D cI cS X F h_t h_t_signs t_length t_word (0 : Int32) (0 : Int32) (0 : Int32) u1 t_broken t_signs (97 : Int32) (122 : Int32) hu9) 0 [0, 1] rfl rfl (rmok_of (Nat.le_of_ble_eq_true rfl)) ⟨Nat.zero_le _, Nat.zero_le _⟩ rfl rfl rfl rfl rfl ⟨rfl, rfl, rfl⟩ dX2_read_36 ?_
        refine G_if_eq (tgt := 55) hc dX2_read_39 (by decide) (fun c11 => ?_) (fun c11 => ?_)
        · have h := ip h c11
          have h := Option.some.inj h
          subst h
          refine G_lv (lv' := [(0, .ref h_t), (1, .int a1)]) (lsame_cons rfl (lsame_cons rfl lsame_nil)) ?_
          exact hK7
        · have h := inn h c11
          refine G_aload_n hc dX2_read_42 rfl ?_
          refine G_dup hc dX2_read_43 rfl ?_
          refine G_get hc f_X2_28 0 rfl rfl dX2_read_44 ?_
          refine G_iconst (v := 1) hc dX2_read_47 (by decide) ?_
          refine G_iadd hc dX2_read_48 ?_
          obtain ⟨v10, e_v10, h⟩ := sb h
          refine G_top e_v10 ?_
          refine G_puti (ws' := [(h_t, .inr (2, [.ref h_t_signs, .int t_length, .int t_word, .int (0 : Int32), .int (0 : Int32), .int (0 : Int32), .int v10, .int t_broken])), (h_t_signs, .inl (cI, 60, .inl t_signs))]) hc f_X2_28 p_X2_6 0 rfl rfl rfl dX2_read_49 ?_
          refine G_goto (tgt := 20) hc dX2_read_52 (by decide) ?_
          refine G_lv (lv' := [(0, .ref h_t), (1, .int a1)]) (lsame_cons rfl (lsame_cons rfl lsame_nil)) ?_
          exact ih6 _ h
  refine G_lv (lv' := [(0, .ref h_t), (1, .int a1)]) (lsame_cons rfl (lsame_cons rfl lsame_nil)) ?_
  exact hL4 F _ hl3
set_option maxHeartbeats 4000000 in
set_option maxRecDepth 100000 in
theorem c_X5_turned (l : Launch) (D : va_G) (cI cS : ClassId) (X : XP) (F : Nat) (a0 : Int32) {res : Int32} (h : f_X5_turned F a0 = some res) : CtI l D cI cS X yX5_turned cX5_turned 3 (some .int) 3 [.int a0] [] (PoI res []) := by
  refine CtI.of (by decide +kernel) rfl ?_
  intro p e s m below meth c A hc
  refine G_lv (lv' := [(0, .int a0)]) (lsame_cons rfl lsame_nil) ?_
  unfold f_X5_turned at h
  refine G_iconst (v := 0) hc dX5_turned_0 (by decide) ?_
  refine G_istore_n (lv' := [(0, .int a0), (1, .int (0 : Int32))]) hc dX5_turned_1 rfl rfl ?_
  refine G_iload_n hc dX5_turned_2 rfl ?_
  obtain ⟨z1, hu2, h⟩ := ob h
  refine G_callSI (ws2 := []) hc m_X5_61 (c_X5_lengthOf l D cI cS X F a0 hu2) [] (rmok_of (Nat.le_of_ble_eq_true rfl)) ⟨Nat.zero_le _, Nat.zero_le _⟩ rfl rfl rfl rfl rfl ⟨rfl, rfl, rfl⟩ dX5_turned_3 ?_
  refine G_iconst (v := 1) hc dX5_turned_6 (by decide) ?_
  refine G_isub hc dX5_turned_7 ?_
  obtain ⟨v3, e_v3, h⟩ := sb h
  refine G_top e_v3 ?_
  refine G_istore_n (lv' := [(0, .int a0), (1, .int (0 : Int32)), (2, .int v3)]) hc dX5_turned_8 rfl rfl ?_
  obtain ⟨e6, hl7, h⟩ := ob h
  have hK11 : G p l e (rmk 3) s m [.int a0].toArray below meth c D A 3 0 0 (QI below [.int a0].toArray s D A (PoI res [])) [] [(1, .int e6)] 29 [] := by
    refine G_iload_n hc dX5_turned_29 rfl ?_
    have h := Option.some.inj h
    subst h
    exact G_ireturn hc ⟨rfl, rfl⟩ dX5_turned_30
  clear h
  have hL8 : ∀ (n9 : Nat) (u4 : Int32) (u5 : Int32), f_X5_turned_L9 F a0 n9 u4 u5 = some e6 → G p l e (rmk 3) s m [.int a0].toArray below meth c D A 3 0 0 (QI below [.int a0].toArray s D A (PoI res [])) [] [(0, .int a0), (1, .int u4), (2, .int u5)] 9 [] := by
    intro n9
    induction n9 with
    | zero =>
      intro u4 u5 h
      exact nz h
    | succ n9 ih10 =>
      intro u4 u5 h
      rw [f_X5_turned_L9] at h
      refine G_iload_n hc dX5_turned_9 rfl ?_
      refine G_if_lt (tgt := 29) hc dX5_turned_10 (by decide) (fun c17 => ?_) (fun c17 => ?_)
      · have h := ip h c17
        have h := Option.some.inj h
        subst h
        refine G_lv (lv' := [(1, .int u4)]) (lsame_cons rfl lsame_nil) ?_
        exact hK11
      · have h := inn h c17
        refine G_iload_n hc dX5_turned_13 rfl ?_
        refine G_iload_n hc dX5_turned_14 rfl ?_
        refine G_iload_n hc dX5_turned_15 rfl ?_
        obtain ⟨z12, hu13, h⟩ := ob h
        refine G_callSI (ws2 := []) hc m_X5_88 (c_X5_letterOf l D cI cS X F a0 u5 hu13) [] (rmok_of (Nat.le_of_ble_eq_true rfl)) ⟨Nat.zero_le _, Nat.zero_le _⟩ rfl rfl rfl rfl rfl ⟨rfl, rfl, rfl⟩ dX5_turned_16 ?_
        obtain ⟨z14, hu15, h⟩ := ob h
        refine G_callSI (ws2 := []) hc m_X5_69 (c_X5_longer l D cI cS X F u4 z12 hu15) [] (rmok_of (Nat.le_of_ble_eq_true rfl)) ⟨Nat.zero_le _, Nat.zero_le _⟩ rfl rfl rfl rfl rfl ⟨rfl, rfl, rfl⟩ dX5_turned_19 ?_
        refine G_istore_n (lv' := [(0, .int a0), (1, .int z14), (2, .int u5)]) hc dX5_turned_22 rfl rfl ?_
        obtain ⟨v16, e_v16, h⟩ := sb h
        refine G_iinc (v := v16) (lv' := [(0, .int a0), (1, .int z14), (2, .int v16)]) hc dX5_turned_23 rfl (e_v16.trans rfl) rfl rfl ?_
        refine G_goto (tgt := 9) hc dX5_turned_26 (by decide) ?_
        refine G_lv (lv' := [(0, .int a0), (1, .int z14), (2, .int v16)]) (lsame_cons rfl (lsame_cons rfl (lsame_cons rfl lsame_nil))) ?_
        exact ih10 _ _ h
  refine G_lv (lv' := [(0, .int a0), (1, .int (0 : Int32)), (2, .int v3)]) (lsame_cons rfl (lsame_cons rfl (lsame_cons rfl lsame_nil))) ?_
  exact hL8 F _ _ hl7
set_option maxHeartbeats 4000000 in
set_option maxRecDepth 100000 in
theorem c_X1_keepRow (l : Launch) (D : va_G) (cI cS : ClassId) (X : XP) (F : Nat) (h_s h_s_book : Nat) (s_row : Int32) (s_table : Int32) (s_kept : Int32) (s_book : Nat → Int32) {res : Int32 × (Nat → Int32)} (h : f_X1_keepRow F s_row s_kept s_book = some res) : CtV l D cI cS X yX1_keepRow cX1_keepRow 1 1 [.ref h_s] [(h_s, .inr (1, [.int s_row, .int s_table, .int s_kept, .ref h_s_book])), (h_s_book, .inl (cI, 8, .inl s_book))] (PoV [(h_s, .inr (1, [.int s_row, .int s_table, .int res.1, .ref h_s_book])), (h_s_book, .inl (cI, 8, .inl res.2))]) := by
  refine CtV.of (by decide +kernel) rfl ?_
  intro p e s m below meth c A hc
  refine G_lv (lv' := [(0, .ref h_s)]) (lsame_cons rfl lsame_nil) ?_
  unfold f_X1_keepRow at h
  refine G_aload_n hc dX1_keepRow_0 rfl ?_
  refine G_get hc f_X1_26 0 rfl rfl dX1_keepRow_1 ?_
  obtain ⟨t1, hr3, h⟩ := ob h
  have hj2 : G p l e (rmk 1) s m [.ref h_s].toArray below meth c D A 1 0 0 (QV below [.ref h_s].toArray s D A (PoV [(h_s, .inr (1, [.int s_row, .int s_table, .int res.1, .ref h_s_book])), (h_s_book, .inl (cI, 8, .inl res.2))])) [(h_s, .inr (1, [.int s_row, .int s_table, .int t1.1, .ref h_s_book])), (h_s_book, .inl (cI, 8, .inl t1.2))] [] 42 [] := by
    have h := Option.some.inj h
    subst h
    exact G_return hc rfl dX1_keepRow_42
  clear h
  have h := hr3
  clear hr3
  refine G_if_lt (tgt := 42) hc dX1_keepRow_4 (by decide) (fun c7 => ?_) (fun c7 => ?_)
  · have h := ip h c7
    have h := Option.some.inj h
    subst h
    refine G_lv (lv' := []) lsame_nil ?_
    exact hj2
  · have h := inn h c7
    refine G_aload_n hc dX1_keepRow_7 rfl ?_
    refine G_get hc f_X1_26 0 rfl rfl dX1_keepRow_8 ?_
    refine G_aload_n hc dX1_keepRow_11 rfl ?_
    refine G_get hc f_X1_15 0 rfl rfl dX1_keepRow_12 ?_
    refine G_alen (v := 8) hc 1 rfl (by decide) dX1_keepRow_15 ?_
    refine G_icmp_ge (tgt := 42) hc dX1_keepRow_16 (by decide) (fun c6 => ?_) (fun c6 => ?_)
    · have h := ip h c6
      have h := Option.some.inj h
      subst h
      refine G_lv (lv' := []) lsame_nil ?_
      exact hj2
    · have h := inn h c6
      refine G_aload_n hc dX1_keepRow_19 rfl ?_
      refine G_get hc f_X1_15 0 rfl rfl dX1_keepRow_20 ?_
      refine G_aload_n hc dX1_keepRow_23 rfl ?_
      refine G_get hc f_X1_26 0 rfl rfl dX1_keepRow_24 ?_
      refine G_aload_n hc dX1_keepRow_27 rfl ?_
      refine G_get hc f_X1_9 0 rfl rfl dX1_keepRow_28 ?_
      obtain ⟨v4, i_v4, e_v4, h⟩ := wb h
      refine G_iast (ws' := [(h_s, .inr (1, [.int s_row, .int s_table, .int s_kept, .ref h_s_book])), (h_s_book, .inl (cI, 8, .inl v4))]) hc 1 rfl i_v4 e_v4 rfl dX1_keepRow_31 ?_
      refine G_aload_n hc dX1_keepRow_32 rfl ?_
      refine G_dup hc dX1_keepRow_33 rfl ?_
      refine G_get hc f_X1_26 0 rfl rfl dX1_keepRow_34 ?_
      refine G_iconst (v := 1) hc dX1_keepRow_37 (by decide) ?_
      refine G_iadd hc dX1_keepRow_38 ?_
      obtain ⟨v5, e_v5, h⟩ := sb h
      refine G_top e_v5 ?_
      refine G_puti (ws' := [(h_s, .inr (1, [.int s_row, .int s_table, .int v5, .ref h_s_book])), (h_s_book, .inl (cI, 8, .inl v4))]) hc f_X1_26 p_X1_2 0 rfl rfl rfl dX1_keepRow_39 ?_
      have h := Option.some.inj h
      subst h
      refine G_lv (lv' := []) lsame_nil ?_
      exact hj2
set_option maxHeartbeats 4000000 in
set_option maxRecDepth 100000 in
theorem c_X3_putIntoBook (l : Launch) (D : va_G) (cI cS : ClassId) (X : XP) (F : Nat) (h_y h_y_state h_y_state_book : Nat) (y_orders : Int32) (y_position : Int32) (y_reason : Int32) (y_cause : Int32) (y_state_row : Int32) (y_state_table : Int32) (y_state_kept : Int32) (y_state_book : Nat → Int32) {res : Int32 × Int32 × (Nat → Int32)} (h : f_X3_putIntoBook F y_state_row y_state_kept y_state_book = some res) : CtI l D cI cS X yX3_putIntoBook cX3_putIntoBook 1 (some .int) 2 [.ref h_y] [(h_y, .inr (3, [.ref h_y_state, .int y_orders, .int y_position, .int y_reason, .int y_cause])), (h_y_state, .inr (1, [.int y_state_row, .int y_state_table, .int y_state_kept, .ref h_y_state_book])), (h_y_state_book, .inl (cI, 8, .inl y_state_book))] (PoI res.1 [(h_y, .inr (3, [.ref h_y_state, .int y_orders, .int y_position, .int y_reason, .int y_cause])), (h_y_state, .inr (1, [.int y_state_row, .int y_state_table, .int res.2.1, .ref h_y_state_book])), (h_y_state_book, .inl (cI, 8, .inl res.2.2))]) := by
  refine CtI.of (by decide +kernel) rfl ?_
  intro p e s m below meth c A hc
  refine G_lv (lv' := [(0, .ref h_y)]) (lsame_cons rfl lsame_nil) ?_
  unfold f_X3_putIntoBook at h
  refine G_aload_n hc dX3_putIntoBook_0 rfl ?_
  refine G_get hc f_X3_12 0 rfl rfl dX3_putIntoBook_1 ?_
  refine G_get hc f_X3_91 1 rfl rfl dX3_putIntoBook_4 ?_
  refine G_bipush (v := 8) hc dX3_putIntoBook_7 (by decide) ?_
  refine G_icmp_lt (tgt := 14) hc dX3_putIntoBook_9 (by decide) (fun c4 => ?_) (fun c4 => ?_)
  · have h := ip h c4
    refine G_aload_n hc dX3_putIntoBook_14 rfl ?_
    refine G_get hc f_X3_12 0 rfl rfl dX3_putIntoBook_15 ?_
    refine G_get hc f_X3_64 1 rfl rfl dX3_putIntoBook_18 ?_
    refine G_if_ne (tgt := 26) hc dX3_putIntoBook_21 (by decide) (fun c3 => ?_) (fun c3 => ?_)
    · have h := inn h c3
      refine G_aload_n hc dX3_putIntoBook_26 rfl ?_
      refine G_get hc f_X3_12 0 rfl rfl dX3_putIntoBook_27 ?_
      obtain ⟨z1, hu2, h⟩ := ob h
      refine G_callVV (ws2 := [(h_y, .inr (3, [.ref h_y_state, .int y_orders, .int y_position, .int y_reason, .int y_cause])), (h_y_state, .inr (1, [.int y_state_row, .int y_state_table, .int z1.1, .ref h_y_state_book])), (h_y_state_book, .inl (cI, 8, .inl z1.2))]) hc m_X3_94 (c_X1_keepRow l D cI cS X F h_y_state h_y_state_book y_state_row y_state_table y_state_kept y_state_book hu2) 1 [1, 2] rfl rfl (rmok_of (Nat.le_of_ble_eq_true rfl)) ⟨Nat.zero_le _, Nat.zero_le _⟩ rfl rfl rfl rfl rfl ⟨rfl, rfl, rfl⟩ dX3_putIntoBook_30 ?_
      refine G_iconst (v := 0) hc dX3_putIntoBook_33 (by decide) ?_
      have h := Option.some.inj h
      subst h
      exact G_ireturn hc ⟨rfl, rfl⟩ dX3_putIntoBook_34
    · have h := ip h c3
      refine G_iconst (v := 3) hc dX3_putIntoBook_24 (by decide) ?_
      have h := Option.some.inj h
      subst h
      exact G_ireturn hc ⟨rfl, rfl⟩ dX3_putIntoBook_25
  · have h := inn h c4
    refine G_iconst (v := 2) hc dX3_putIntoBook_12 (by decide) ?_
    have h := Option.some.inj h
    subst h
    exact G_ireturn hc ⟨rfl, rfl⟩ dX3_putIntoBook_13
