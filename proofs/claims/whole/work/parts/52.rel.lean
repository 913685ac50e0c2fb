def Rel (x_pastStates : Int32) (x_now_row : Int32) (x_now_table : Int32) (x_now_kept : Int32) (x_now_book : Nat → Int32) (x_text_length : Int32) (x_text_signs : Nat → Int32) (p0_row : Int32) (p0_table : Int32) (p0_kept : Int32) (p0_book : Nat → Int32) (p1_row : Int32) (p1_table : Int32) (p1_kept : Int32) (p1_book : Nat → Int32) (p2_row : Int32) (p2_table : Int32) (p2_kept : Int32) (p2_book : Nat → Int32) (p3_row : Int32) (p3_table : Int32) (p3_kept : Int32) (p3_book : Nat → Int32) (m_pasts : Int32) (m_runs0 : Int32) (m_typed : Int32) (m_s : Nat → Int32) (m_past : Nat → Int32) (m_text : Nat → Int32) : Prop :=
  ∃ (S : AS) (hs : List AS) (tx : List Nat), StC x_now_row x_now_table x_now_kept x_now_book S ∧ StM m_s S ∧ HiC x_pastStates p0_row p0_table p0_kept p0_book p1_row p1_table p1_kept p1_book p2_row p2_table p2_kept p2_book p3_row p3_table p3_kept p3_book hs ∧ HiM m_pasts m_past hs ∧ m_runs0 = 0 ∧ TxR x_text_length x_text_signs m_typed m_text tx
theorem HiC.ok {ps p0r p0t p0k : Int32} {p0b : Nat → Int32} {p1r p1t p1k : Int32} {p1b : Nat → Int32} {p2r p2t p2k : Int32} {p2b : Nat → Int32} {p3r p3t p3k : Int32} {p3b : Nat → Int32} {hs : List AS} (h : HiC ps p0r p0t p0k p0b p1r p1t p1k p1b p2r p2t p2k p2b p3r p3t p3k p3b hs) : ∀ (j : Nat) (S' : AS), hs[j]? = some S' → AOk S' := by
  obtain ⟨-, hl, g0, g1, g2, g3⟩ := h
  intro j S' hj
  have h4 : j < 4 := Nat.lt_of_lt_of_le (List.getElem?_eq_some_iff.mp hj).1 hl
  rcases (show j = 0 ∨ j = 1 ∨ j = 2 ∨ j = 3 by omega) with rfl | rfl | rfl | rfl
  · exact (g0 S' hj).ok
  · exact (g1 S' hj).ok
  · exact (g2 S' hj).ok
  · exact (g3 S' hj).ok
theorem gl_snoc {r : List Nat} {x i : Nat} (h : i < r.length) : gl (r ++ [x]) i = gl r i := by
  unfold gl
  rw [List.getD_eq_getElem?_getD, List.getD_eq_getElem?_getD, List.getElem?_append_left h]
theorem gl_last {r : List Nat} {x : Nat} : gl (r ++ [x]) r.length = x := by
  unfold gl
  rw [List.getD_eq_getElem?_getD, List.getElem?_append_right (Nat.le_refl _), Nat.sub_self]
  rfl
theorem nI10 {n : Nat} (h : n ≤ 10) : nI n = (10 : Int32) ↔ n = 10 := ⟨fun e => nI_inj (a := n) (b := 10) (by omega) (by decide) e, fun e => by rw [e]; rfl⟩
-- a state of the reference whose row alone is another one
theorem StM.row {s s' : Nat → Int32} {r r' : List Nat} {t : Nat → Nat} {bk : List (List Nat)} (h : StM s (r, t, bk)) (h0 : s' 0 = nI r'.length) (h1 : ∀ i, i < r'.length → s' (1 + i) = nI (gl r' i)) (e : ∀ k, 11 ≤ k → s' k = s k) : StM s' (r', t, bk) := by
  obtain ⟨-, -, h3, h4, h5⟩ := h
  refine ⟨h0, h1, fun k hk => by rw [e _ (by omega)]; exact h3 k hk, by rw [e _ (by omega)]; exact h4, fun j q hj => ?_⟩
  obtain ⟨g1, g2⟩ := h5 j q hj
  exact ⟨by rw [e _ (by omega)]; exact g1, fun i hi => by rw [e _ (by omega)]; exact g2 i hi⟩
theorem StC.row {row table kept row' : Int32} {book : Nat → Int32} {r r' : List Nat} {t : Nat → Nat} {bk : List (List Nat)} (h : StC row table kept book (r, t, bk)) (e : row' = encR r') (hr : RowOk r') : StC row' table kept book (r', t, bk) := ⟨e, hr, h.2.2⟩
theorem mkst {α β : Type} {a : Option α} {b : Option β} {P : α → β → Prop} {x : α} {y : β} (ha : a = some x) (hb : b = some y) (h : P x y) : ∃ rx rm, a = some rx ∧ b = some rm ∧ P rx rm := ⟨x, y, ha, hb, h⟩
theorem st_append {F : Nat} (hF : 1100000 ≤ F) {x_pastStates : Int32} {x_now_row : Int32} {x_now_table : Int32} {x_now_kept : Int32} {x_now_book : Nat → Int32} {x_text_length : Int32} {x_text_signs : Nat → Int32} {p0_row : Int32} {p0_table : Int32} {p0_kept : Int32} {p0_book : Nat → Int32} {p1_row : Int32} {p1_table : Int32} {p1_kept : Int32} {p1_book : Nat → Int32} {p2_row : Int32} {p2_table : Int32} {p2_kept : Int32} {p2_book : Nat → Int32} {p3_row : Int32} {p3_table : Int32} {p3_kept : Int32} {p3_book : Nat → Int32} {m_pasts : Int32} {m_runs0 : Int32} {m_typed : Int32} {m_s : Nat → Int32} {m_past : Nat → Int32} {m_text : Nat → Int32} (h : Rel x_pastStates x_now_row x_now_table x_now_kept x_now_book x_text_length x_text_signs p0_row p0_table p0_kept p0_book p1_row p1_table p1_kept p1_book p2_row p2_table p2_kept p2_book p3_row p3_table p3_kept p3_book m_pasts m_runs0 m_typed m_s m_past m_text) (a1 : Int32) : ∃ rx rm, f_X5_append F x_pastStates x_now_row x_now_table x_now_kept x_now_book p0_row p0_table p0_kept p0_book p1_row p1_table p1_kept p1_book p2_row p2_table p2_kept p2_book p3_row p3_table p3_kept p3_book a1 = some rx ∧ f_X6_append F m_pasts m_runs0 m_s m_past a1 = some rm ∧ rx.1 = rm.1 ∧ Rel rx.2.1 rx.2.2.1 x_now_table x_now_kept x_now_book x_text_length x_text_signs rx.2.2.2.1 rx.2.2.2.2.1 rx.2.2.2.2.2.1 rx.2.2.2.2.2.2.1 rx.2.2.2.2.2.2.2.1 rx.2.2.2.2.2.2.2.2.1 rx.2.2.2.2.2.2.2.2.2.1 rx.2.2.2.2.2.2.2.2.2.2.1 rx.2.2.2.2.2.2.2.2.2.2.2.1 rx.2.2.2.2.2.2.2.2.2.2.2.2.1 rx.2.2.2.2.2.2.2.2.2.2.2.2.2.1 rx.2.2.2.2.2.2.2.2.2.2.2.2.2.2.1 rx.2.2.2.2.2.2.2.2.2.2.2.2.2.2.2.1 rx.2.2.2.2.2.2.2.2.2.2.2.2.2.2.2.2.1 rx.2.2.2.2.2.2.2.2.2.2.2.2.2.2.2.2.2.1 rx.2.2.2.2.2.2.2.2.2.2.2.2.2.2.2.2.2.2 rm.2.1 m_runs0 m_typed rm.2.2.1 rm.2.2.2 m_text := by
  obtain ⟨⟨r, t, bk⟩, hs, tx, hC, hM, hH, hHM, rfl, hT⟩ := h
  have hr : RowOk r := hC.2.1
  have hl := hr.1
  have e3 : x_now_row = encR r := hC.1
  have e4 : m_s 0 = nI r.length := hM.1
  rcases c4 F a1 with ⟨e1, e2⟩ | ⟨x, hx, rfl, e1, e2⟩
  · apply mkst
    · unfold f_X5_append; rw [e1, ob_some, if_pos rfl]
    · unfold f_X6_append; rw [e2, ob_some, if_pos rfl]
    · exact ⟨rfl, (r, t, bk), hs, tx, hC, hM, hH, hHM, rfl, hT⟩
  · by_cases h10 : r.length < 10
    · obtain ⟨z, ez, hz⟩ := s_record F hC hH
      obtain ⟨m, em, hm⟩ := s_changes hF hHM hH.2.1 hM hC.ok hH.ok
      apply mkst
      · unfold f_X5_append
        rw [e1, ob_some, if_neg (by decide), ez, e3, s_lengthOf F hr, ob_some, if_pos (show nI r.length < (10 : Int32) from nI_lt h10 (by decide)), ob_some, s_longer F hr h10 hx, ob_some, s_lengthOf F (hr.snoc h10 hx), ob_some]
      · unfold f_X6_append
        rw [e2, ob_some, if_neg (by decide), em, show rd 116 m_s (0 : Int32) = some (m_s 0) from rd_ok (i := 0) _ (by decide) (by decide), ob_some, e4, if_neg (fun e => by have := (nI10 hl).mp e; omega), ob_some, ob_some, show (1 : Int32) = nI 1 from rfl, nI_add, wr_ok _ _ (by omega) (by decide), ob_some, show (0 : Int32) = nI 0 from rfl, rd_ok _ (by decide) (by decide), ob_some, wr_ok _ _ (by decide) (by decide), ob_some, rd_ok _ (by decide) (by decide), ob_some, upd_s, upd_n _ _ (show 0 ≠ 1 + r.length by omega), e4, nI_add]
      · dsimp only
        refine ⟨?_, (r ++ [x], t, bk), push hs (r, t, bk), tx, hC.row rfl (hr.snoc h10 hx), ?_, hz, hm, rfl, hT⟩
        · rw [List.length_append]; rfl
        · refine hM.row ?_ ?_ ?_
          · rw [upd_s, List.length_append]; rfl
          · intro i hi
            rw [List.length_append] at hi
            have hi : i < r.length + 1 := hi
            rw [upd_n _ _ (by omega)]
            by_cases h2 : i = r.length
            · subst h2
              rw [upd_s, gl_last]
            · rw [upd_n _ _ (by omega), gl_snoc (by omega)]
              exact hM.2.1 i (by show i < r.length; omega)
          · intro k hk
            rw [upd_n _ _ (by omega), upd_n _ _ (by omega)]
    · apply mkst
      · unfold f_X5_append
        rw [e1, ob_some, if_neg (by decide), e3, s_lengthOf F hr, ob_some, if_neg (show ¬ nI r.length < (10 : Int32) from nI_nlt (b := 10) (by omega) (by omega))]
      · unfold f_X6_append
        rw [e2, ob_some, if_neg (by decide), show rd 116 m_s (0 : Int32) = some (m_s 0) from rd_ok (i := 0) _ (by decide) (by decide), ob_some, e4, if_pos ((nI10 hl).mpr (by omega))]
      · exact ⟨rfl, (r, t, bk), hs, tx, hC.row rfl hr, hM, hH, hHM, rfl, hT⟩
