theorem gl_rev {r : List Nat} {i : Nat} (h : i < r.length) : gl r.reverse i = gl r (r.length - 1 - i) := by
  unfold gl
  rw [List.getD_eq_getElem?_getD, List.getD_eq_getElem?_getD, List.getElem?_reverse h]
theorem drop_gl {r : List Nat} {k : Nat} (h : k < r.length) : r.drop k = gl r k :: r.drop (k + 1) := by
  rw [List.drop_eq_getElem_cons h]
  congr 1
  unfold gl
  rw [List.getD_eq_getElem?_getD, List.getElem?_eq_getElem h]
  rfl
theorem s_turned {F : Nat} (hF : 1100000 ≤ F) {r : List Nat} (h : RowOk r) : f_X5_turned F (encR r) = some (encR r.reverse) := by
  have hl := h.1
  have key : ∀ (k n : Nat), k ≤ r.length → k < n → f_X5_turned_L9 F (encR r) n (encR (r.drop k).reverse) (nI k - 1) = some (encR r.reverse) := by
    intro k
    induction k with
    | zero =>
      intro n _ hn
      obtain ⟨m, rfl⟩ : ∃ m, n = m + 1 := ⟨n - 1, by omega⟩
      rw [f_X5_turned_L9, if_pos (show nI 0 - 1 < (0 : Int32) by decide)]
      rfl
    | succ k ih =>
      intro n hk hn
      obtain ⟨m, rfl⟩ : ∃ m, n = m + 1 := ⟨n - 1, by omega⟩
      have hok : RowOk (r.drop (k + 1)).reverse := ⟨by rw [List.length_reverse, List.length_drop]; omega, fun x hx => h.2 x (List.mem_of_mem_drop (List.mem_reverse.mp hx))⟩
      rw [f_X5_turned_L9, show (1 : Int32) = nI 1 from rfl, nI_sub (by omega), Nat.add_sub_cancel, if_neg (nI_pos (by omega)), s_letterOf F h (by omega), ob_some, s_longer F hok (by rw [List.length_reverse, List.length_drop]; omega) (gl_lt h.2 k), ob_some, ← Int32.sub_eq_add_neg, ob_some, show (r.drop (k + 1)).reverse ++ [gl r k] = (r.drop k).reverse by rw [drop_gl (show k < r.length by omega), List.reverse_cons]]
      exact ih m (by omega) (by omega)
  have h5 := key r.length F (Nat.le_refl _) (by omega)
  rw [show r.drop r.length = [] from List.drop_length] at h5
  have h6 : f_X5_turned_L9 F (encR r) F (0 : Int32) (nI r.length - 1) = some (encR r.reverse) := h5
  unfold f_X5_turned
  rw [s_lengthOf F h, ob_some, ob_some, h6, ob_some]
theorem m_turn {F : Nat} (hF : 1100000 ≤ F) {s : Nat → Int32} {l : Nat} (hl0 : 0 < l) (hl : l ≤ 10) (h0 : s 0 = nI l) : ∃ s', f_X6_turn_L18 F F (0 : Int32) s = some s' ∧ (∀ i, i < l → s' (1 + i) = s (l - i)) ∧ ∀ j, j = 0 ∨ l < j → s' j = s j := by
  have key : ∀ (d n k : Nat) (g : Nat → Int32), k + d = l → d < n → 2 * k ≤ l → (∀ i, i < l → g (1 + i) = if i < k ∨ l ≤ i + k then s (l - i) else s (1 + i)) → (∀ j, j = 0 ∨ l < j → g j = s j) → ∃ s', f_X6_turn_L18 F n (nI k) g = some s' ∧ (∀ i, i < l → s' (1 + i) = s (l - i)) ∧ ∀ j, j = 0 ∨ l < j → s' j = s j := by
    intro d
    induction d with
    | zero => intro n k g hk hn h2; omega
    | succ d ih =>
      intro n k g hk hn h2 hg hj
      obtain ⟨m, rfl⟩ : ∃ m, n = m + 1 := ⟨n - 1, by omega⟩
      have g0 : g 0 = nI l := (hj 0 (Or.inl rfl)).trans h0
      by_cases hc : l - 1 ≤ 2 * k
      · refine ⟨g, ?_, fun i hi => ?_, hj⟩
        · rw [f_X6_turn_L18, rd0 _ (by decide) (by decide), ob_some, g0, show (1 : Int32) = nI 1 from rfl, nI_sub (by omega), show (2 : Int32) = nI 2 from rfl, nI_mul, if_pos (nI_le hc (by omega))]
        · rw [hg i hi]
          by_cases e : i < k ∨ l ≤ i + k
          · rw [if_pos e]
          · rw [if_neg e]
            congr 1
            omega
      · have hv : ∀ i, i < l → upd (upd g (1 + k) (g (l - k))) (l - k) (g (1 + k)) (1 + i) = if i < k + 1 ∨ l ≤ i + (k + 1) then s (l - i) else s (1 + i) := by
          intro i hi
          by_cases e1 : 1 + i = l - k
          · rw [e1, upd_s, hg k (by omega), if_neg (by omega), if_pos (by omega)]
            congr 1
            omega
          · rw [upd_n _ _ e1]
            by_cases e2 : i = k
            · subst e2
              have e3 := hg (l - i - 1) (by omega)
              rw [if_neg (by omega), show 1 + (l - i - 1) = l - i by omega] at e3
              rw [upd_s, e3, if_pos (by omega)]
            · rw [upd_n _ _ (by omega), hg i hi]
              by_cases e : i < k ∨ l ≤ i + k
              · rw [if_pos e, if_pos (by omega)]
              · rw [if_neg e, if_neg (by omega)]
        have hw : ∀ j, j = 0 ∨ l < j → upd (upd g (1 + k) (g (l - k))) (l - k) (g (1 + k)) j = s j := by
          intro j h
          rw [upd_n _ _ (by omega), upd_n _ _ (by omega), hj j h]
        obtain ⟨s', e, p⟩ := ih m (k + 1) _ (by omega) (by omega) (by omega) hv hw
        refine ⟨s', ?_, p⟩
        rw [f_X6_turn_L18, rd0 _ (by decide) (by decide), ob_some, g0, show (1 : Int32) = nI 1 from rfl, nI_sub (by omega), show (2 : Int32) = nI 2 from rfl, nI_mul, if_neg (nI_ge (by omega) (by omega)), nI_add, rd_ok _ (by omega) (by decide), ob_some, ob_some, nI_add, nI_sub (by omega), nI_sub (by omega), show 1 + l - 1 - k = l - k by omega, rd_ok _ (by omega) (by decide), ob_some, wr_ok _ _ (by omega) (by decide), ob_some, rd0 _ (by decide) (by decide), ob_some, upd_n _ _ (show 0 ≠ 1 + k by omega), g0, nI_add, nI_sub (by omega), nI_sub (by omega), show 1 + l - 1 - k = l - k by omega, wr_ok _ _ (by omega) (by decide), ob_some, nI_add, ob_some]
        exact e
  refine key l F 0 s (by omega) (by omega) (by omega) (fun i hi => ?_) (fun _ _ => rfl)
  rw [if_neg (by omega)]
theorem RowOk.rev {r : List Nat} (h : RowOk r) : RowOk r.reverse := ⟨by rw [List.length_reverse]; exact h.1, fun x hx => h.2 x (List.mem_reverse.mp hx)⟩
theorem StM.turn {F : Nat} (hF : 1100000 ≤ F) {s : Nat → Int32} {r : List Nat} {t : Nat → Nat} {bk : List (List Nat)} (h : StM s (r, t, bk)) (hr : RowOk r) (h0 : r ≠ []) : ∃ s', f_X6_turn_L18 F F (0 : Int32) s = some s' ∧ StM s' (r.reverse, t, bk) := by
  have hl := hr.1
  have hl0 : r.length ≠ 0 := fun e => h0 (List.length_eq_zero_iff.mp e)
  obtain ⟨s', e, p1, p2⟩ := m_turn hF (s := s) (l := r.length) (by omega) hl h.1
  refine ⟨s', e, h.row ?_ ?_ ?_⟩
  · rw [p2 0 (Or.inl rfl), List.length_reverse]; exact h.1
  · intro i hi
    rw [List.length_reverse] at hi
    rw [p1 i hi, gl_rev hi, show r.length - i = 1 + (r.length - 1 - i) by omega]
    exact h.2.1 _ (by show r.length - 1 - i < r.length; omega)
  · intro k hk
    exact p2 k (Or.inr (by omega))
theorem st_turn {F : Nat} (hF : 1100000 ≤ F) {x_pastStates : Int32} {x_now_row : Int32} {x_now_table : Int32} {x_now_kept : Int32} {x_now_book : Nat → Int32} {x_text_length : Int32} {x_text_signs : Nat → Int32} {p0_row : Int32} {p0_table : Int32} {p0_kept : Int32} {p0_book : Nat → Int32} {p1_row : Int32} {p1_table : Int32} {p1_kept : Int32} {p1_book : Nat → Int32} {p2_row : Int32} {p2_table : Int32} {p2_kept : Int32} {p2_book : Nat → Int32} {p3_row : Int32} {p3_table : Int32} {p3_kept : Int32} {p3_book : Nat → Int32} {m_pasts : Int32} {m_runs0 : Int32} {m_typed : Int32} {m_s : Nat → Int32} {m_past : Nat → Int32} {m_text : Nat → Int32} (h : Rel x_pastStates x_now_row x_now_table x_now_kept x_now_book x_text_length x_text_signs p0_row p0_table p0_kept p0_book p1_row p1_table p1_kept p1_book p2_row p2_table p2_kept p2_book p3_row p3_table p3_kept p3_book m_pasts m_runs0 m_typed m_s m_past m_text) : ∃ rx rm, f_X5_turn F x_pastStates x_now_row x_now_table x_now_kept x_now_book p0_row p0_table p0_kept p0_book p1_row p1_table p1_kept p1_book p2_row p2_table p2_kept p2_book p3_row p3_table p3_kept p3_book = some rx ∧ f_X6_turn F m_pasts m_runs0 m_s m_past = some rm ∧ rx.1 = rm.1 ∧ Rel rx.2.1 rx.2.2.1 x_now_table x_now_kept x_now_book x_text_length x_text_signs rx.2.2.2.1 rx.2.2.2.2.1 rx.2.2.2.2.2.1 rx.2.2.2.2.2.2.1 rx.2.2.2.2.2.2.2.1 rx.2.2.2.2.2.2.2.2.1 rx.2.2.2.2.2.2.2.2.2.1 rx.2.2.2.2.2.2.2.2.2.2.1 rx.2.2.2.2.2.2.2.2.2.2.2.1 rx.2.2.2.2.2.2.2.2.2.2.2.2.1 rx.2.2.2.2.2.2.2.2.2.2.2.2.2.1 rx.2.2.2.2.2.2.2.2.2.2.2.2.2.2.1 rx.2.2.2.2.2.2.2.2.2.2.2.2.2.2.2.1 rx.2.2.2.2.2.2.2.2.2.2.2.2.2.2.2.2.1 rx.2.2.2.2.2.2.2.2.2.2.2.2.2.2.2.2.2.1 rx.2.2.2.2.2.2.2.2.2.2.2.2.2.2.2.2.2.2 rm.2.1 m_runs0 m_typed rm.2.2.1 rm.2.2.2 m_text := by
  obtain ⟨⟨r, t, bk⟩, hs, tx, hC, hM, hH, hHM, rfl, hT⟩ := h
  have hr : RowOk r := hC.2.1
  have hl := hr.1
  have e3 : x_now_row = encR r := hC.1
  have e4 : m_s 0 = nI r.length := hM.1
  by_cases h0 : r = []
  · apply mkst
    · unfold f_X5_turn; rw [if_pos (by rw [e3, h0]; rfl)]
    · unfold f_X6_turn; rw [rd0 _ (by decide) (by decide), ob_some, if_pos (by rw [e4, h0]; rfl)]
    · exact ⟨rfl, (r, t, bk), hs, tx, hC, hM, hH, hHM, rfl, hT⟩
  · have hl0 : r.length ≠ 0 := fun e => h0 (List.length_eq_zero_iff.mp e)
    obtain ⟨z, ez, hz⟩ := s_record F hC hH
    obtain ⟨m, em, hm⟩ := s_changes hF hHM hH.2.1 hM hC.ok hH.ok
    obtain ⟨s', es, hs'⟩ := hM.turn hF hr h0
    apply mkst
    · unfold f_X5_turn
      rw [ez, ob_some, if_neg (by rw [e3]; exact encR_ne hr h0), e3, s_turned hF hr, ob_some, show (0 : Int32) = nI 0 from rfl, s_letterOf F hr.rev (by decide), ob_some]
    · unfold f_X6_turn
      rw [rd0 _ (by decide) (by decide), ob_some, if_neg (by rw [e4]; exact nIlit (m := 0) (by omega) (by decide) hl0), em, ob_some, es, ob_some, show (1 : Int32) = nI 1 from rfl, rd_ok _ (by decide) (by decide), ob_some]
    · dsimp only
      refine ⟨?_, (r.reverse, t, bk), push hs (r, t, bk), tx, hC.row rfl hr.rev, hs', hz, hm, rfl, hT⟩
      exact (hs'.2.1 0 (by show 0 < r.reverse.length; rw [List.length_reverse]; omega)).symm
