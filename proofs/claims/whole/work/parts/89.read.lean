-- an order is read alike
theorem wd_5 (tx : List Nat) (a e : Nat) : wd tx a e ≤ 5 ∧ (wd tx a e = 1 → e = a + 3) ∧ (wd tx a e ≠ 0 → a < e) := by
  unfold wd
  by_cases h0 : e = a + 3 ∧ wd0 tx a
  · rw [if_pos h0]; exact ⟨by decide, fun _ => h0.1, fun _ => by omega⟩
  rw [if_neg h0]
  by_cases h1 : e = a + 4 ∧ wd1 tx a
  · rw [if_pos h1]; exact ⟨by decide, fun z => absurd z (by decide), fun _ => by omega⟩
  rw [if_neg h1]
  by_cases h2 : e = a + 4 ∧ wd2 tx a
  · rw [if_pos h2]; exact ⟨by decide, fun z => absurd z (by decide), fun _ => by omega⟩
  rw [if_neg h2]
  by_cases h3 : e = a + 5 ∧ wd3 tx a
  · rw [if_pos h3]; exact ⟨by decide, fun z => absurd z (by decide), fun _ => by omega⟩
  rw [if_neg h3]
  by_cases h4 : e = a + 4 ∧ wd4 tx a
  · rw [if_pos h4]; exact ⟨by decide, fun z => absurd z (by decide), fun _ => by omega⟩
  rw [if_neg h4]
  exact ⟨by decide, fun z => absurd z (by decide), fun z => absurd rfl z⟩
/-- what is read where an order breaks off, or is of its form -/
def RdB (F : Nat) (len : Int32) (signs : Nat → Int32) (typed : Int32) (text : Nat → Int32) (tx : List Nat) (p e w : Nat) : Prop := ∃ (k n r : Int32) (q : Nat), f_X2_read F len signs (nI p) = some (nI w, k, n, r, nI q, 1) ∧ p ≤ q ∧ q ≤ tx.length ∧ ∀ kn pn, ∃ k' n', f_X6_isForm F typed (nI e) kn pn text (nI (w - 1)) = some (0, nI q, k', n')
def RdO (F : Nat) (len : Int32) (signs : Nat → Int32) (typed : Int32) (text : Nat → Int32) (tx : List Nat) (p e w : Nat) : Prop := ∃ (kd nu : Nat) (rw : List Nat) (q : Nat), f_X2_read F len signs (nI p) = some (nI w, nI kd, nI nu, encR rw, nI q, 0) ∧ p < q ∧ q ≤ tx.length ∧ kd ≤ 9 ∧ nu < 1000000 ∧ (w = 1 → RowOk rw ∧ p + 4 + rw.length + 1 = q ∧ ∀ i, i < rw.length → gl tx (p + 4 + i) = 97 + gl rw i) ∧ (w ≠ 3 → w ≠ 4 → kd = 0) ∧ ∀ kn pn, ∃ k' n', f_X6_isForm F typed (nI e) kn pn text (nI (w - 1)) = some (1, nI q, k', n') ∧ (w = 3 ∨ w = 4 → k' = nI kd) ∧ (w = 4 → n' = nI nu)
theorem read_both {F : Nat} (hF : 1100000 ≤ F) {len : Int32} {signs : Nat → Int32} {typed : Int32} {text : Nat → Int32} {tx : List Nat} (hT : TxR len signs typed text tx) {p : Nat} (hp : p < tx.length) : ∃ e w, p ≤ e ∧ e ≤ tx.length ∧ w ≤ 5 ∧ f_X6_plays_L50 F typed text F (nI p) = some (nI e) ∧ f_X6_wordAt F (nI e) text (nI p) = some (if w = 0 then -1000004 else nI (w - 1)) ∧ ((w = 0 ∧ ∃ k n r, f_X2_read F len signs (nI p) = some (nI w, k, n, r, nI e, 1)) ∨ (w ≠ 0 ∧ (RdB F len signs typed text tx p e w ∨ RdO F len signs typed text tx p e w))) := by
  have h60 := hT.2.2.1
  have he1 := rn_ge tx 97 122 60 p
  have he2 := rn_le tx 122 (show 0 < 97 by decide) 60 p (by omega)
  have eL := c_L20 F hT 60 F p (by omega) (by omega) (by omega)
  have eM := m_L50 F hT 60 F p (by omega) (by omega) (by omega)
  obtain ⟨w5, w1, w0⟩ := wd_5 tx p (rn tx 97 122 60 p)
  have ew := c_word hF hT he1 he2
  have em := m_word F hT he1 he2
  generalize rn tx 97 122 60 p = e at he1 he2 eL eM w5 w1 w0 ew em
  generalize wd tx p e = w at w5 w1 w0 ew em
  refine ⟨e, w, he1, he2, w5, eM, em, ?_⟩
  rcases (show w = 0 ∨ w = 1 ∨ w = 2 ∨ w = 3 ∨ w = 4 ∨ w = 5 by omega) with rfl | rfl | rfl | rfl | rfl | rfl
  · left
    refine ⟨rfl, 0, 0, 0, ?_⟩
    unfold f_X2_read
    rw [eL, ob_some, ew, ob_some, if_pos (show nI 0 = (0 : Int32) from rfl), ob_some, ckz1, ob_some, if_neg (show ¬ nI 0 = (1 : Int32) by decide), if_neg (show ¬ nI 0 = (2 : Int32) by decide), if_neg (show ¬ nI 0 = (3 : Int32) by decide), if_neg (show ¬ nI 0 = (4 : Int32) by decide), ob_some, c_rs1, ob_some]
  · right
    refine ⟨by decide, ?_⟩
    have e3 := w1 rfl
    by_cases b1 : gl tx e = 32
    rotate_left
    · refine Or.inl ⟨0, 0, 0, e, ?_, by omega, by omega, fun kn pn => ⟨kn, pn, ?_⟩⟩
      · unfold f_X2_read
        rw [eL, ob_some, ew, ob_some, if_neg (show ¬ nI 1 = (0 : Int32) by decide), ob_some, ckz0, ob_some, if_pos (show nI 1 = (1 : Int32) from rfl), c_rsn F hT (by omega) (c := 32) (a := 32) rfl (by decide) (by decide) b1, ob_some, c_row1 hF, ob_some, ob_some, c_rs1, ob_some]
      · unfold f_X6_isForm
        rw [show 1 - 1 = 0 from rfl, if_pos (show nI 0 = (0 : Int32) from rfl), m_psn F hT (by omega) (c := 32) (a := 32) rfl (by decide) (by decide) b1, ob_some, if_pos rfl, ob_some, if_pos rfl, ob_some, ckz0, ob_some]
    have b1' := gl_in (tx := tx) (i := e) (by omega)
    by_cases b2 : Lt tx (e + 1)
    rotate_left
    · refine Or.inl ⟨0, 0, 0, (e + 1), ?_, by omega, by omega, fun kn pn => ⟨kn, pn, ?_⟩⟩
      · unfold f_X2_read
        rw [eL, ob_some, ew, ob_some, if_neg (show ¬ nI 1 = (0 : Int32) by decide), ob_some, ckz0, ob_some, if_pos (show nI 1 = (1 : Int32) from rfl), c_rsy F hT (by omega) (c := 32) (a := 32) rfl (by decide) (by decide) b1, ob_some, c_rown hF hT (by omega) b2, ob_some, ob_some, c_rs1, ob_some]
      · unfold f_X6_isForm
        rw [show 1 - 1 = 0 from rfl, if_pos (show nI 0 = (0 : Int32) from rfl), m_psy F hT (by omega) (c := 32) (a := 32) rfl (by decide) (by decide) b1, ob_some, if_neg ne10, m_lrn hF hT (by omega) b2, ob_some, if_pos rfl, ob_some, if_pos rfl, ob_some, ckz0, ob_some]
    have b2' := gl_in (tx := tx) (i := e + 1) (by have := b2.1; omega)
    have q1 := rn_ge tx 97 100 10 (e + 1)
    have q2 := rn_le tx 100 (show 0 < 97 by decide) 10 (e + 1) (by omega)
    obtain ⟨l1, l2, l3, l4⟩ := lw_spec tx 10 (e + 1)
    by_cases b3 : gl tx (rn tx 97 100 10 (e + 1)) = 59
    rotate_left
    · refine Or.inl ⟨0, 0, (encR (lw tx 10 (e + 1))), (rn tx 97 100 10 (e + 1)), ?_, by omega, by omega, fun kn pn => ⟨kn, pn, ?_⟩⟩
      · unfold f_X2_read
        rw [eL, ob_some, ew, ob_some, if_neg (show ¬ nI 1 = (0 : Int32) by decide), ob_some, ckz0, ob_some, if_pos (show nI 1 = (1 : Int32) from rfl), c_rsy F hT (by omega) (c := 32) (a := 32) rfl (by decide) (by decide) b1, ob_some, c_rowy hF hT b2, ob_some, ob_some, c_rsn F hT (by omega) (c := 59) (a := 59) rfl (by decide) (by decide) b3, ob_some]
      · unfold f_X6_isForm
        rw [show 1 - 1 = 0 from rfl, if_pos (show nI 0 = (0 : Int32) from rfl), m_psy F hT (by omega) (c := 32) (a := 32) rfl (by decide) (by decide) b1, ob_some, if_neg ne10, m_lry hF hT b2, ob_some, if_neg ne10, ob_some, if_neg ne10, m_psn F hT (by omega) (c := 59) (a := 59) rfl (by decide) (by decide) b3, ob_some, if_pos rfl, ob_some, ckz0, ob_some]
    have b3' := gl_in (tx := tx) (i := rn tx 97 100 10 (e + 1)) (by omega)
    refine Or.inr ⟨0, 0, (lw tx 10 (e + 1)), (rn tx 97 100 10 (e + 1) + 1), ?_, by omega, by omega, by decide, by decide, fun _ => ⟨⟨l3, l2⟩, by omega, fun i hi => by rw [show p + 4 + i = e + 1 + i by omega]; exact l4 i hi⟩, fun _ _ => rfl, fun kn pn => ⟨kn, pn, ?_, fun z => z.elim (fun z => absurd z (by decide)) (fun z => absurd z (by decide)), fun z => absurd z (by decide)⟩⟩
    · unfold f_X2_read
      rw [eL, ob_some, ew, ob_some, if_neg (show ¬ nI 1 = (0 : Int32) by decide), ob_some, ckz0, ob_some, if_pos (show nI 1 = (1 : Int32) from rfl), c_rsy F hT (by omega) (c := 32) (a := 32) rfl (by decide) (by decide) b1, ob_some, c_rowy hF hT b2, ob_some, ob_some, c_rsy F hT (by omega) (c := 59) (a := 59) rfl (by decide) (by decide) b3, ob_some]
      rfl
    · unfold f_X6_isForm
      rw [show 1 - 1 = 0 from rfl, if_pos (show nI 0 = (0 : Int32) from rfl), m_psy F hT (by omega) (c := 32) (a := 32) rfl (by decide) (by decide) b1, ob_some, if_neg ne10, m_lry hF hT b2, ob_some, if_neg ne10, ob_some, if_neg ne10, m_psy F hT (by omega) (c := 59) (a := 59) rfl (by decide) (by decide) b3, ob_some, if_neg ne10, ob_some, ckz1, ob_some]
  · right
    refine ⟨by decide, ?_⟩
    by_cases b1 : gl tx e = 59
    rotate_left
    · refine Or.inl ⟨0, 0, 0, e, ?_, by omega, by omega, fun kn pn => ⟨kn, pn, ?_⟩⟩
      · unfold f_X2_read
        rw [eL, ob_some, ew, ob_some, if_neg (show ¬ nI 2 = (0 : Int32) by decide), ob_some, ckz0, ob_some, if_neg (show ¬ nI 2 = (1 : Int32) by decide), if_pos (show nI 2 = (2 : Int32) from rfl), ob_some, c_rsn F hT (by omega) (c := 59) (a := 59) rfl (by decide) (by decide) b1, ob_some]
      · unfold f_X6_isForm
        rw [show 2 - 1 = 1 from rfl, if_neg (show ¬ nI 1 = (0 : Int32) by decide), if_pos (show nI 1 < (2 : Int32) by decide), ob_some, if_neg ne10, m_psn F hT (by omega) (c := 59) (a := 59) rfl (by decide) (by decide) b1, ob_some, if_pos rfl, ob_some, ckz0, ob_some]
    have b1' := gl_in (tx := tx) (i := e) (by omega)
    refine Or.inr ⟨0, 0, [], (e + 1), ?_, by omega, by omega, by decide, by decide, fun z => absurd z (by decide), fun _ _ => rfl, fun kn pn => ⟨kn, pn, ?_, fun z => z.elim (fun z => absurd z (by decide)) (fun z => absurd z (by decide)), fun z => absurd z (by decide)⟩⟩
    · unfold f_X2_read
      rw [eL, ob_some, ew, ob_some, if_neg (show ¬ nI 2 = (0 : Int32) by decide), ob_some, ckz0, ob_some, if_neg (show ¬ nI 2 = (1 : Int32) by decide), if_pos (show nI 2 = (2 : Int32) from rfl), ob_some, c_rsy F hT (by omega) (c := 59) (a := 59) rfl (by decide) (by decide) b1, ob_some]
      rfl
    · unfold f_X6_isForm
      rw [show 2 - 1 = 1 from rfl, if_neg (show ¬ nI 1 = (0 : Int32) by decide), if_pos (show nI 1 < (2 : Int32) by decide), ob_some, if_neg ne10, m_psy F hT (by omega) (c := 59) (a := 59) rfl (by decide) (by decide) b1, ob_some, if_neg ne10, ob_some, ckz1, ob_some]
  · right
    refine ⟨by decide, ?_⟩
    by_cases b1 : gl tx e = 32
    rotate_left
    · refine Or.inl ⟨0, 0, 0, e, ?_, by omega, by omega, fun kn pn => ⟨kn, pn, ?_⟩⟩
      · unfold f_X2_read
        rw [eL, ob_some, ew, ob_some, if_neg (show ¬ nI 3 = (0 : Int32) by decide), ob_some, ckz0, ob_some, if_neg (show ¬ nI 3 = (1 : Int32) by decide), if_neg (show ¬ nI 3 = (2 : Int32) by decide), if_pos (show nI 3 = (3 : Int32) from rfl), c_rsn F hT (by omega) (c := 32) (a := 32) rfl (by decide) (by decide) b1, ob_some, c_rd1, ob_some, ob_some, c_rs1, ob_some]
      · unfold f_X6_isForm
        rw [show 3 - 1 = 2 from rfl, if_neg (show ¬ nI 2 = (0 : Int32) by decide), if_neg (show ¬ nI 2 < (2 : Int32) by decide), if_neg (show ¬ nI 2 = (4 : Int32) by decide), m_kb F hT (by omega) b1, ob_some, if_pos rfl, ob_some, if_pos rfl, ob_some, ckz0, ob_some]
    have b1' := gl_in (tx := tx) (i := e) (by omega)
    by_cases b2 : Dg tx (e + 1)
    rotate_left
    · refine Or.inl ⟨0, 0, 0, (e + 1), ?_, by omega, by omega, fun kn pn => ⟨kn, pn, ?_⟩⟩
      · unfold f_X2_read
        rw [eL, ob_some, ew, ob_some, if_neg (show ¬ nI 3 = (0 : Int32) by decide), ob_some, ckz0, ob_some, if_neg (show ¬ nI 3 = (1 : Int32) by decide), if_neg (show ¬ nI 3 = (2 : Int32) by decide), if_pos (show nI 3 = (3 : Int32) from rfl), c_rsy F hT (by omega) (c := 32) (a := 32) rfl (by decide) (by decide) b1, ob_some, c_rdn F hT (by omega) b2, ob_some, ob_some, c_rs1, ob_some]
      · unfold f_X6_isForm
        rw [show 3 - 1 = 2 from rfl, if_neg (show ¬ nI 2 = (0 : Int32) by decide), if_neg (show ¬ nI 2 < (2 : Int32) by decide), if_neg (show ¬ nI 2 = (4 : Int32) by decide), m_kd F hT (by omega) b1 b2, ob_some, if_pos rfl, ob_some, if_pos rfl, ob_some, ckz0, ob_some]
    have b2' := gl_in (tx := tx) (i := e + 1) (by have := b2.1; omega)
    have b22 := b2.2
    by_cases b3 : gl tx (e + 1 + 1) = 59
    rotate_left
    · refine Or.inl ⟨(nI (gl tx (e + 1) - 48)), 0, 0, (e + 1 + 1), ?_, by omega, by omega, fun kn pn => ⟨(nI (gl tx (e + 1) - 48)), pn, ?_⟩⟩
      · unfold f_X2_read
        rw [eL, ob_some, ew, ob_some, if_neg (show ¬ nI 3 = (0 : Int32) by decide), ob_some, ckz0, ob_some, if_neg (show ¬ nI 3 = (1 : Int32) by decide), if_neg (show ¬ nI 3 = (2 : Int32) by decide), if_pos (show nI 3 = (3 : Int32) from rfl), c_rsy F hT (by omega) (c := 32) (a := 32) rfl (by decide) (by decide) b1, ob_some, c_rdy F hT b2, ob_some, ob_some, c_rsn F hT (by omega) (c := 59) (a := 59) rfl (by decide) (by decide) b3, ob_some]
      · unfold f_X6_isForm
        rw [show 3 - 1 = 2 from rfl, if_neg (show ¬ nI 2 = (0 : Int32) by decide), if_neg (show ¬ nI 2 < (2 : Int32) by decide), if_neg (show ¬ nI 2 = (4 : Int32) by decide), m_ky F hT b1 b2, ob_some, if_neg ne10, if_pos (show nI 2 = (2 : Int32) from rfl), ob_some, if_neg ne10, m_psn F hT (by omega) (c := 59) (a := 59) rfl (by decide) (by decide) b3, ob_some, if_pos rfl, ob_some, ckz0, ob_some]
    have b3' := gl_in (tx := tx) (i := e + 1 + 1) (by omega)
    refine Or.inr ⟨(gl tx (e + 1) - 48), 0, [], (e + 1 + 1 + 1), ?_, by omega, by omega, by omega, by decide, fun z => absurd z (by decide), fun z => absurd rfl z, fun kn pn => ⟨(nI (gl tx (e + 1) - 48)), pn, ?_, fun _ => rfl, fun z => absurd z (by decide)⟩⟩
    · unfold f_X2_read
      rw [eL, ob_some, ew, ob_some, if_neg (show ¬ nI 3 = (0 : Int32) by decide), ob_some, ckz0, ob_some, if_neg (show ¬ nI 3 = (1 : Int32) by decide), if_neg (show ¬ nI 3 = (2 : Int32) by decide), if_pos (show nI 3 = (3 : Int32) from rfl), c_rsy F hT (by omega) (c := 32) (a := 32) rfl (by decide) (by decide) b1, ob_some, c_rdy F hT b2, ob_some, ob_some, c_rsy F hT (by omega) (c := 59) (a := 59) rfl (by decide) (by decide) b3, ob_some]
      rfl
    · unfold f_X6_isForm
      rw [show 3 - 1 = 2 from rfl, if_neg (show ¬ nI 2 = (0 : Int32) by decide), if_neg (show ¬ nI 2 < (2 : Int32) by decide), if_neg (show ¬ nI 2 = (4 : Int32) by decide), m_ky F hT b1 b2, ob_some, if_neg ne10, if_pos (show nI 2 = (2 : Int32) from rfl), ob_some, if_neg ne10, m_psy F hT (by omega) (c := 59) (a := 59) rfl (by decide) (by decide) b3, ob_some, if_neg ne10, ob_some, ckz1, ob_some]
  · right
    refine ⟨by decide, ?_⟩
    by_cases b1 : gl tx e = 32
    rotate_left
    · refine Or.inl ⟨0, 0, 0, e, ?_, by omega, by omega, fun kn pn => ⟨kn, pn, ?_⟩⟩
      · unfold f_X2_read
        rw [eL, ob_some, ew, ob_some, if_neg (show ¬ nI 4 = (0 : Int32) by decide), ob_some, ckz0, ob_some, if_neg (show ¬ nI 4 = (1 : Int32) by decide), if_neg (show ¬ nI 4 = (2 : Int32) by decide), if_neg (show ¬ nI 4 = (3 : Int32) by decide), if_pos (show nI 4 = (4 : Int32) from rfl), c_rsn F hT (by omega) (c := 32) (a := 32) rfl (by decide) (by decide) b1, ob_some, c_rd1, ob_some, c_rs1, ob_some, c_rn1 hF, ob_some, ob_some, c_rs1, ob_some]
      · unfold f_X6_isForm
        rw [show 4 - 1 = 3 from rfl, if_neg (show ¬ nI 3 = (0 : Int32) by decide), if_neg (show ¬ nI 3 < (2 : Int32) by decide), if_neg (show ¬ nI 3 = (4 : Int32) by decide), m_kb F hT (by omega) b1, ob_some, if_pos rfl, ob_some, if_pos rfl, ob_some, ckz0, ob_some]
    have b1' := gl_in (tx := tx) (i := e) (by omega)
    by_cases b2 : Dg tx (e + 1)
    rotate_left
    · refine Or.inl ⟨0, 0, 0, (e + 1), ?_, by omega, by omega, fun kn pn => ⟨kn, pn, ?_⟩⟩
      · unfold f_X2_read
        rw [eL, ob_some, ew, ob_some, if_neg (show ¬ nI 4 = (0 : Int32) by decide), ob_some, ckz0, ob_some, if_neg (show ¬ nI 4 = (1 : Int32) by decide), if_neg (show ¬ nI 4 = (2 : Int32) by decide), if_neg (show ¬ nI 4 = (3 : Int32) by decide), if_pos (show nI 4 = (4 : Int32) from rfl), c_rsy F hT (by omega) (c := 32) (a := 32) rfl (by decide) (by decide) b1, ob_some, c_rdn F hT (by omega) b2, ob_some, c_rs1, ob_some, c_rn1 hF, ob_some, ob_some, c_rs1, ob_some]
      · unfold f_X6_isForm
        rw [show 4 - 1 = 3 from rfl, if_neg (show ¬ nI 3 = (0 : Int32) by decide), if_neg (show ¬ nI 3 < (2 : Int32) by decide), if_neg (show ¬ nI 3 = (4 : Int32) by decide), m_kd F hT (by omega) b1 b2, ob_some, if_pos rfl, ob_some, if_pos rfl, ob_some, ckz0, ob_some]
    have b2' := gl_in (tx := tx) (i := e + 1) (by have := b2.1; omega)
    have b22 := b2.2
    by_cases b3 : gl tx (e + 1 + 1) = 32
    rotate_left
    · refine Or.inl ⟨(nI (gl tx (e + 1) - 48)), 0, 0, (e + 1 + 1), ?_, by omega, by omega, fun kn pn => ⟨(nI (gl tx (e + 1) - 48)), pn, ?_⟩⟩
      · unfold f_X2_read
        rw [eL, ob_some, ew, ob_some, if_neg (show ¬ nI 4 = (0 : Int32) by decide), ob_some, ckz0, ob_some, if_neg (show ¬ nI 4 = (1 : Int32) by decide), if_neg (show ¬ nI 4 = (2 : Int32) by decide), if_neg (show ¬ nI 4 = (3 : Int32) by decide), if_pos (show nI 4 = (4 : Int32) from rfl), c_rsy F hT (by omega) (c := 32) (a := 32) rfl (by decide) (by decide) b1, ob_some, c_rdy F hT b2, ob_some, c_rsn F hT (by omega) (c := 32) (a := 32) rfl (by decide) (by decide) b3, ob_some, c_rn1 hF, ob_some, ob_some, c_rs1, ob_some]
      · unfold f_X6_isForm
        rw [show 4 - 1 = 3 from rfl, if_neg (show ¬ nI 3 = (0 : Int32) by decide), if_neg (show ¬ nI 3 < (2 : Int32) by decide), if_neg (show ¬ nI 3 = (4 : Int32) by decide), m_ky F hT b1 b2, ob_some, if_neg ne10, if_neg (show ¬ nI 3 = (2 : Int32) by decide), m_nb F hT (by omega) b3, ob_some, if_pos rfl, ob_some, if_pos rfl, ob_some, ckz0, ob_some]
    have b3' := gl_in (tx := tx) (i := e + 1 + 1) (by omega)
    by_cases b4 : Dg tx (e + 1 + 1 + 1)
    rotate_left
    · refine Or.inl ⟨(nI (gl tx (e + 1) - 48)), 0, 0, (e + 1 + 1 + 1), ?_, by omega, by omega, fun kn pn => ⟨(nI (gl tx (e + 1) - 48)), 0, ?_⟩⟩
      · unfold f_X2_read
        rw [eL, ob_some, ew, ob_some, if_neg (show ¬ nI 4 = (0 : Int32) by decide), ob_some, ckz0, ob_some, if_neg (show ¬ nI 4 = (1 : Int32) by decide), if_neg (show ¬ nI 4 = (2 : Int32) by decide), if_neg (show ¬ nI 4 = (3 : Int32) by decide), if_pos (show nI 4 = (4 : Int32) from rfl), c_rsy F hT (by omega) (c := 32) (a := 32) rfl (by decide) (by decide) b1, ob_some, c_rdy F hT b2, ob_some, c_rsy F hT (by omega) (c := 32) (a := 32) rfl (by decide) (by decide) b3, ob_some, c_rnn hF hT (by omega) b4, ob_some, ob_some, c_rs1, ob_some]
      · unfold f_X6_isForm
        rw [show 4 - 1 = 3 from rfl, if_neg (show ¬ nI 3 = (0 : Int32) by decide), if_neg (show ¬ nI 3 < (2 : Int32) by decide), if_neg (show ¬ nI 3 = (4 : Int32) by decide), m_ky F hT b1 b2, ob_some, if_neg ne10, if_neg (show ¬ nI 3 = (2 : Int32) by decide), m_nd hF hT (by omega) b3 b4, ob_some, if_pos rfl, ob_some, if_pos rfl, ob_some, ckz0, ob_some]
    have b4' := gl_in (tx := tx) (i := e + 1 + 1 + 1) (by have := b4.1; omega)
    have q1 := rn_ge tx 48 57 6 (e + 1 + 1 + 1)
    have q2 := rn_le tx 57 (show 0 < 48 by decide) 6 (e + 1 + 1 + 1) (by omega)
    have nb1 := nb_lt tx 6 (e + 1 + 1 + 1) 0
    by_cases b5 : gl tx (rn tx 48 57 6 (e + 1 + 1 + 1)) = 59
    rotate_left
    · refine Or.inl ⟨(nI (gl tx (e + 1) - 48)), (nI (nb tx 6 (e + 1 + 1 + 1) 0)), 0, (rn tx 48 57 6 (e + 1 + 1 + 1)), ?_, by omega, by omega, fun kn pn => ⟨(nI (gl tx (e + 1) - 48)), (nI (nb tx 6 (e + 1 + 1 + 1) 0)), ?_⟩⟩
      · unfold f_X2_read
        rw [eL, ob_some, ew, ob_some, if_neg (show ¬ nI 4 = (0 : Int32) by decide), ob_some, ckz0, ob_some, if_neg (show ¬ nI 4 = (1 : Int32) by decide), if_neg (show ¬ nI 4 = (2 : Int32) by decide), if_neg (show ¬ nI 4 = (3 : Int32) by decide), if_pos (show nI 4 = (4 : Int32) from rfl), c_rsy F hT (by omega) (c := 32) (a := 32) rfl (by decide) (by decide) b1, ob_some, c_rdy F hT b2, ob_some, c_rsy F hT (by omega) (c := 32) (a := 32) rfl (by decide) (by decide) b3, ob_some, c_rny hF hT b4, ob_some, ob_some, c_rsn F hT (by omega) (c := 59) (a := 59) rfl (by decide) (by decide) b5, ob_some]
      · unfold f_X6_isForm
        rw [show 4 - 1 = 3 from rfl, if_neg (show ¬ nI 3 = (0 : Int32) by decide), if_neg (show ¬ nI 3 < (2 : Int32) by decide), if_neg (show ¬ nI 3 = (4 : Int32) by decide), m_ky F hT b1 b2, ob_some, if_neg ne10, if_neg (show ¬ nI 3 = (2 : Int32) by decide), m_ny hF hT b3 b4, ob_some, if_neg ne10, ob_some, if_neg ne10, m_psn F hT (by omega) (c := 59) (a := 59) rfl (by decide) (by decide) b5, ob_some, if_pos rfl, ob_some, ckz0, ob_some]
    have b5' := gl_in (tx := tx) (i := rn tx 48 57 6 (e + 1 + 1 + 1)) (by omega)
    refine Or.inr ⟨(gl tx (e + 1) - 48), (nb tx 6 (e + 1 + 1 + 1) 0), [], (rn tx 48 57 6 (e + 1 + 1 + 1) + 1), ?_, by omega, by omega, by omega, by omega, fun z => absurd z (by decide), fun _ z => absurd rfl z, fun kn pn => ⟨(nI (gl tx (e + 1) - 48)), (nI (nb tx 6 (e + 1 + 1 + 1) 0)), ?_, fun _ => rfl, fun _ => rfl⟩⟩
    · unfold f_X2_read
      rw [eL, ob_some, ew, ob_some, if_neg (show ¬ nI 4 = (0 : Int32) by decide), ob_some, ckz0, ob_some, if_neg (show ¬ nI 4 = (1 : Int32) by decide), if_neg (show ¬ nI 4 = (2 : Int32) by decide), if_neg (show ¬ nI 4 = (3 : Int32) by decide), if_pos (show nI 4 = (4 : Int32) from rfl), c_rsy F hT (by omega) (c := 32) (a := 32) rfl (by decide) (by decide) b1, ob_some, c_rdy F hT b2, ob_some, c_rsy F hT (by omega) (c := 32) (a := 32) rfl (by decide) (by decide) b3, ob_some, c_rny hF hT b4, ob_some, ob_some, c_rsy F hT (by omega) (c := 59) (a := 59) rfl (by decide) (by decide) b5, ob_some]
      rfl
    · unfold f_X6_isForm
      rw [show 4 - 1 = 3 from rfl, if_neg (show ¬ nI 3 = (0 : Int32) by decide), if_neg (show ¬ nI 3 < (2 : Int32) by decide), if_neg (show ¬ nI 3 = (4 : Int32) by decide), m_ky F hT b1 b2, ob_some, if_neg ne10, if_neg (show ¬ nI 3 = (2 : Int32) by decide), m_ny hF hT b3 b4, ob_some, if_neg ne10, ob_some, if_neg ne10, m_psy F hT (by omega) (c := 59) (a := 59) rfl (by decide) (by decide) b5, ob_some, if_neg ne10, ob_some, ckz1, ob_some]
  · right
    refine ⟨by decide, ?_⟩
    by_cases b1 : gl tx e = 59
    rotate_left
    · refine Or.inl ⟨0, 0, 0, e, ?_, by omega, by omega, fun kn pn => ⟨kn, pn, ?_⟩⟩
      · unfold f_X2_read
        rw [eL, ob_some, ew, ob_some, if_neg (show ¬ nI 5 = (0 : Int32) by decide), ob_some, ckz0, ob_some, if_neg (show ¬ nI 5 = (1 : Int32) by decide), if_neg (show ¬ nI 5 = (2 : Int32) by decide), if_neg (show ¬ nI 5 = (3 : Int32) by decide), if_neg (show ¬ nI 5 = (4 : Int32) by decide), ob_some, c_rsn F hT (by omega) (c := 59) (a := 59) rfl (by decide) (by decide) b1, ob_some]
      · unfold f_X6_isForm
        rw [show 5 - 1 = 4 from rfl, if_neg (show ¬ nI 4 = (0 : Int32) by decide), if_neg (show ¬ nI 4 < (2 : Int32) by decide), if_pos (show nI 4 = (4 : Int32) from rfl), ob_some, if_neg ne10, m_psn F hT (by omega) (c := 59) (a := 59) rfl (by decide) (by decide) b1, ob_some, if_pos rfl, ob_some, ckz0, ob_some]
    have b1' := gl_in (tx := tx) (i := e) (by omega)
    refine Or.inr ⟨0, 0, [], (e + 1), ?_, by omega, by omega, by decide, by decide, fun z => absurd z (by decide), fun _ _ => rfl, fun kn pn => ⟨kn, pn, ?_, fun z => z.elim (fun z => absurd z (by decide)) (fun z => absurd z (by decide)), fun z => absurd z (by decide)⟩⟩
    · unfold f_X2_read
      rw [eL, ob_some, ew, ob_some, if_neg (show ¬ nI 5 = (0 : Int32) by decide), ob_some, ckz0, ob_some, if_neg (show ¬ nI 5 = (1 : Int32) by decide), if_neg (show ¬ nI 5 = (2 : Int32) by decide), if_neg (show ¬ nI 5 = (3 : Int32) by decide), if_neg (show ¬ nI 5 = (4 : Int32) by decide), ob_some, c_rsy F hT (by omega) (c := 59) (a := 59) rfl (by decide) (by decide) b1, ob_some]
      rfl
    · unfold f_X6_isForm
      rw [show 5 - 1 = 4 from rfl, if_neg (show ¬ nI 4 = (0 : Int32) by decide), if_neg (show ¬ nI 4 < (2 : Int32) by decide), if_pos (show nI 4 = (4 : Int32) from rfl), ob_some, if_neg ne10, m_psy F hT (by omega) (c := 59) (a := 59) rfl (by decide) (by decide) b1, ob_some, if_neg ne10, ob_some, ckz1, ob_some]
