theorem rd0 {n : Nat} (f : Nat → Int32) (h : 0 < n) (hn : n < 2 ^ 31) : rd n f (0 : Int32) = some (f 0) := rd_ok (i := 0) f h hn
theorem wr0 {n : Nat} (f : Nat → Int32) (x : Int32) (h : 0 < n) (hn : n < 2 ^ 31) : wr n f (0 : Int32) x = some (upd f 0 x) := wr_ok (i := 0) f x h hn
theorem ne10 : ¬ (1 : Int32) = 0 := by decide
theorem RowOk.nil : RowOk [] := ⟨Nat.zero_le _, fun _ h => by cases h⟩
theorem st_clear {F : Nat} (hF : 1100000 ≤ F) {x_pastStates : Int32} {x_now_row : Int32} {x_now_table : Int32} {x_now_kept : Int32} {x_now_book : Nat → Int32} {x_text_length : Int32} {x_text_signs : Nat → Int32} {p0_row : Int32} {p0_table : Int32} {p0_kept : Int32} {p0_book : Nat → Int32} {p1_row : Int32} {p1_table : Int32} {p1_kept : Int32} {p1_book : Nat → Int32} {p2_row : Int32} {p2_table : Int32} {p2_kept : Int32} {p2_book : Nat → Int32} {p3_row : Int32} {p3_table : Int32} {p3_kept : Int32} {p3_book : Nat → Int32} {m_pasts : Int32} {m_runs0 : Int32} {m_typed : Int32} {m_s : Nat → Int32} {m_past : Nat → Int32} {m_text : Nat → Int32} (h : Rel x_pastStates x_now_row x_now_table x_now_kept x_now_book x_text_length x_text_signs p0_row p0_table p0_kept p0_book p1_row p1_table p1_kept p1_book p2_row p2_table p2_kept p2_book p3_row p3_table p3_kept p3_book m_pasts m_runs0 m_typed m_s m_past m_text) : ∃ rx rm, f_X5_clear F x_pastStates x_now_row x_now_table x_now_kept x_now_book p0_row p0_table p0_kept p0_book p1_row p1_table p1_kept p1_book p2_row p2_table p2_kept p2_book p3_row p3_table p3_kept p3_book = some rx ∧ f_X6_clear F m_pasts m_runs0 m_s m_past = some rm ∧ rx.1 = rm.1 ∧ Rel rx.2.1 rx.2.2.1 x_now_table x_now_kept x_now_book x_text_length x_text_signs rx.2.2.2.1 rx.2.2.2.2.1 rx.2.2.2.2.2.1 rx.2.2.2.2.2.2.1 rx.2.2.2.2.2.2.2.1 rx.2.2.2.2.2.2.2.2.1 rx.2.2.2.2.2.2.2.2.2.1 rx.2.2.2.2.2.2.2.2.2.2.1 rx.2.2.2.2.2.2.2.2.2.2.2.1 rx.2.2.2.2.2.2.2.2.2.2.2.2.1 rx.2.2.2.2.2.2.2.2.2.2.2.2.2.1 rx.2.2.2.2.2.2.2.2.2.2.2.2.2.2.1 rx.2.2.2.2.2.2.2.2.2.2.2.2.2.2.2.1 rx.2.2.2.2.2.2.2.2.2.2.2.2.2.2.2.2.1 rx.2.2.2.2.2.2.2.2.2.2.2.2.2.2.2.2.2.1 rx.2.2.2.2.2.2.2.2.2.2.2.2.2.2.2.2.2.2 rm.2.1 m_runs0 m_typed rm.2.2.1 rm.2.2.2 m_text := by
  obtain ⟨⟨r, t, bk⟩, hs, tx, hC, hM, hH, hHM, rfl, hT⟩ := h
  have hr : RowOk r := hC.2.1
  have e3 : x_now_row = encR r := hC.1
  have e4 : m_s 0 = nI r.length := hM.1
  obtain ⟨z, ez, hz⟩ := s_record F hC hH
  obtain ⟨m, em, hm⟩ := s_changes hF hHM hH.2.1 hM hC.ok hH.ok
  apply mkst
  · unfold f_X5_clear
    rw [ez, e3, s_lengthOf F hr, ob_some, ob_some]
  · unfold f_X6_clear
    rw [em, ob_some, rd0 _ (by decide) (by decide), ob_some, wr0 _ _ (by decide) (by decide), ob_some]
  · dsimp only
    refine ⟨e4.symm, ([], t, bk), push hs (r, t, bk), tx, hC.row rfl RowOk.nil, ?_, hz, hm, rfl, hT⟩
    refine hM.row (by rw [upd_s]; rfl) (fun i hi => absurd hi (Nat.not_lt_zero i)) (fun k hk => upd_n _ _ (by omega))
theorem s_codeIn (F : Nat) {tb : Int32} {t : Nat → Nat} (h : TabC tb t) {a b : Nat} (ha : a < 4) (hb : b < 4) : f_X5_codeIn F tb (nI a) (nI b) = some (nI (t (4 * a + b))) := by
  unfold f_X5_codeIn
  rw [show (4 : Int32) = nI 4 from rfl, nI_mul, nI_add, show (2 : Int32) = nI 2 from rfl, nI_mul, (h (4 * a + b) (by omega)).1]
theorem bt3 {i : Nat} (hi : i < 32) : bt (3 : Int32) i = decide (i < 2) := (by decide +kernel : ∀ i, i < 32 → bt (3 : Int32) i = decide (i < 2)) i hi
theorem bt_small {x i : Nat} (hx : x < 4) (h2 : 2 ≤ i) (hi : i < 32) : bt (nI x) i = false := by
  rw [nI_bt _ _ hi]
  exact Nat.testBit_lt_two_pow (Nat.lt_of_lt_of_le hx (show 2 ^ 2 ≤ 2 ^ i from Nat.pow_le_pow_right (by decide) h2))
theorem s_withCode (F : Nat) {tb : Int32} {t : Nat → Nat} (h : TabC tb t) {a b x : Nat} (ha : a < 4) (hb : b < 4) (hx : x < 4) : ∃ tb', f_X5_withCode F tb (nI a) (nI b) (nI x) = some tb' ∧ TabC tb' (fun k => if k = 4 * a + b then x else t k) := by
  unfold f_X5_withCode
  rw [show (4 : Int32) = nI 4 from rfl, nI_mul, nI_add, show (2 : Int32) = nI 2 from rfl, nI_mul, ob_some]
  refine ⟨_, rfl, ?_⟩
  generalize hk0 : 4 * a + b = k0
  have hk16 : k0 < 16 := by omega
  intro k hk
  obtain ⟨h1, h2⟩ := h k hk
  refine ⟨?_, by show (if k = k0 then x else t k) < 4; by_cases e : k = k0; · rw [if_pos e]; exact hx
                 · rw [if_neg e]; exact h2⟩
  have hbit : ∀ i, i < 2 → bt tb (2 * k + i) = bt (nI (t k)) i := by
    intro i hi
    have h3 := congrArg (fun z => bt z i) h1
    rw [b_and, bt3 (by omega), decide_eq_true hi, Bool.and_true] at h3
    rw [← h3]
    exact (b_ushr (2 * k) (by omega) tb i).symm
  apply b_ext
  intro i hi
  rw [b_and, bt3 hi]
  by_cases hi2 : i < 2
  · rw [decide_eq_true hi2, Bool.and_true]
    have h3 : ∀ z : Int32, bt (ushr z (nI (2 * k))) i = bt z (2 * k + i) := fun z => b_ushr (2 * k) (by omega) z i
    rw [h3, b_or, b_and, b_xor, b_shl (2 * k0) (by omega) _ (by omega), b_shl (2 * k0) (by omega) _ (by omega), b_m1 _ (by omega)]
    show _ = bt (nI (if k = k0 then x else t k)) i
    by_cases e : k = k0
    · subst e
      rw [if_pos rfl, show 2 * k + i - 2 * k = i by omega, bt3 hi]
      simp [hi2]
    · rw [if_neg e, ← hbit i hi2]
      rcases Nat.lt_or_ge k k0 with hlt | hge
      · rw [decide_eq_false (show ¬ 2 * k0 ≤ 2 * k + i by omega)]
        simp
      · have hd : 2 ≤ 2 * k + i - 2 * k0 := by omega
        rw [bt_small hx hd (by omega), bt3 (by omega), decide_eq_false (show ¬ 2 * k + i - 2 * k0 < 2 by omega)]
        simp
  · rw [decide_eq_false hi2, Bool.and_false]
    symm
    refine bt_small ?_ (by omega) hi
    show (if k = k0 then x else t k) < 4
    by_cases e : k = k0
    · rw [if_pos e]; exact hx
    · rw [if_neg e]; exact h2
theorem tab_ix {a b : Nat} : (11 : Int32) + (4 : Int32) * nI a + nI b = nI (11 + (4 * a + b)) := by
  rw [show (4 : Int32) = nI 4 from rfl, show (11 : Int32) = nI 11 from rfl, nI_mul, nI_add, nI_add, Nat.add_assoc]
theorem st_code {F : Nat} (hF : 1100000 ≤ F) {x_pastStates : Int32} {x_now_row : Int32} {x_now_table : Int32} {x_now_kept : Int32} {x_now_book : Nat → Int32} {x_text_length : Int32} {x_text_signs : Nat → Int32} {p0_row : Int32} {p0_table : Int32} {p0_kept : Int32} {p0_book : Nat → Int32} {p1_row : Int32} {p1_table : Int32} {p1_kept : Int32} {p1_book : Nat → Int32} {p2_row : Int32} {p2_table : Int32} {p2_kept : Int32} {p2_book : Nat → Int32} {p3_row : Int32} {p3_table : Int32} {p3_kept : Int32} {p3_book : Nat → Int32} {m_pasts : Int32} {m_runs0 : Int32} {m_typed : Int32} {m_s : Nat → Int32} {m_past : Nat → Int32} {m_text : Nat → Int32} (h : Rel x_pastStates x_now_row x_now_table x_now_kept x_now_book x_text_length x_text_signs p0_row p0_table p0_kept p0_book p1_row p1_table p1_kept p1_book p2_row p2_table p2_kept p2_book p3_row p3_table p3_kept p3_book m_pasts m_runs0 m_typed m_s m_past m_text) (a1 : Int32) (a2 : Int32) (a3 : Int32) : ∃ rx rm, f_X5_code F x_pastStates x_now_row x_now_table x_now_kept x_now_book p0_row p0_table p0_kept p0_book p1_row p1_table p1_kept p1_book p2_row p2_table p2_kept p2_book p3_row p3_table p3_kept p3_book a1 a2 a3 = some rx ∧ f_X6_code F m_pasts m_runs0 m_s m_past a1 a2 a3 = some rm ∧ rx.1 = rm.1 ∧ Rel rx.2.1 x_now_row rx.2.2.1 x_now_kept x_now_book x_text_length x_text_signs rx.2.2.2.1 rx.2.2.2.2.1 rx.2.2.2.2.2.1 rx.2.2.2.2.2.2.1 rx.2.2.2.2.2.2.2.1 rx.2.2.2.2.2.2.2.2.1 rx.2.2.2.2.2.2.2.2.2.1 rx.2.2.2.2.2.2.2.2.2.2.1 rx.2.2.2.2.2.2.2.2.2.2.2.1 rx.2.2.2.2.2.2.2.2.2.2.2.2.1 rx.2.2.2.2.2.2.2.2.2.2.2.2.2.1 rx.2.2.2.2.2.2.2.2.2.2.2.2.2.2.1 rx.2.2.2.2.2.2.2.2.2.2.2.2.2.2.2.1 rx.2.2.2.2.2.2.2.2.2.2.2.2.2.2.2.2.1 rx.2.2.2.2.2.2.2.2.2.2.2.2.2.2.2.2.2.1 rx.2.2.2.2.2.2.2.2.2.2.2.2.2.2.2.2.2.2 rm.2.1 m_runs0 m_typed rm.2.2.1 rm.2.2.2 m_text := by
  obtain ⟨⟨r, t, bk⟩, hs, tx, hC, hM, hH, hHM, rfl, hT⟩ := h
  rcases c4 F a1 with ⟨e1, e2⟩ | ⟨a, ha, rfl, e1, e2⟩
  · apply mkst
    · unfold f_X5_code; rw [e1, ob_some, if_pos rfl]
    · unfold f_X6_code; rw [e2, ob_some, if_pos rfl]
    · exact ⟨rfl, (r, t, bk), hs, tx, hC, hM, hH, hHM, rfl, hT⟩
  rcases c4 F a2 with ⟨f1, f2⟩ | ⟨b, hb, rfl, f1, f2⟩
  · apply mkst
    · unfold f_X5_code; rw [e1, ob_some, if_neg ne10, f1, ob_some, if_pos rfl]
    · unfold f_X6_code; rw [e2, ob_some, if_neg ne10, f2, ob_some, if_pos rfl]
    · exact ⟨rfl, (r, t, bk), hs, tx, hC, hM, hH, hHM, rfl, hT⟩
  rcases c4 F a3 with ⟨g1, g2⟩ | ⟨x, hx, rfl, g1, g2⟩
  · apply mkst
    · unfold f_X5_code; rw [e1, ob_some, if_neg ne10, f1, ob_some, if_neg ne10, g1, ob_some, if_pos rfl]
    · unfold f_X6_code; rw [e2, ob_some, if_neg ne10, f2, ob_some, if_neg ne10, g2, ob_some, if_pos rfl]
    · exact ⟨rfl, (r, t, bk), hs, tx, hC, hM, hH, hHM, rfl, hT⟩
  obtain ⟨z, ez, hz⟩ := s_record F hC hH
  obtain ⟨m, em, hm⟩ := s_changes hF hHM hH.2.1 hM hC.ok hH.ok
  have htab : TabC x_now_table t := hC.2.2.1
  obtain ⟨tb', et, ht⟩ := s_withCode F htab ha hb hx
  apply mkst
  · unfold f_X5_code
    rw [e1, ob_some, if_neg ne10, f1, ob_some, if_neg ne10, g1, ob_some, if_neg ne10, s_codeIn F htab ha hb, ob_some, ez, ob_some, et, ob_some]
  · unfold f_X6_code
    rw [e2, ob_some, if_neg ne10, f2, ob_some, if_neg ne10, g2, ob_some, if_neg ne10, em, ob_some, tab_ix, rd_ok _ (by omega) (by decide), ob_some, wr_ok _ _ (by omega) (by decide), ob_some]
  · dsimp only
    refine ⟨(hM.2.2.1 (4 * a + b) (by omega)).symm, (r, (fun k => if k = 4 * a + b then x else t k), bk), push hs (r, t, bk), tx, ⟨hC.1, hC.2.1, ht, hC.2.2.2⟩, ?_, hz, hm, rfl, hT⟩
    obtain ⟨h1, h2, h3, h4, h5⟩ := hM
    have hl : r.length ≤ 10 := hC.2.1.1
    refine ⟨by rw [upd_n _ _ (by omega)]; exact h1, fun i hi => ?_, fun k hk => ?_, by rw [upd_n _ _ (by omega)]; exact h4, fun j q hj => ?_⟩
    · have hi : i < r.length := hi
      rw [upd_n _ _ (by omega)]; exact h2 i hi
    · show _ = nI (if k = 4 * a + b then x else t k)
      by_cases e : k = 4 * a + b
      · subst e
        rw [upd_s, if_pos rfl]
      · rw [upd_n _ _ (by omega), if_neg e]
        exact h3 k hk
    · obtain ⟨g1, g2⟩ := h5 j q hj
      exact ⟨by rw [upd_n _ _ (by omega)]; exact g1, fun i hi => by rw [upd_n _ _ (by omega)]; exact g2 i hi⟩
theorem st_letterAt {F : Nat} (hF : 1100000 ≤ F) {x_pastStates : Int32} {x_now_row : Int32} {x_now_table : Int32} {x_now_kept : Int32} {x_now_book : Nat → Int32} {x_text_length : Int32} {x_text_signs : Nat → Int32} {p0_row : Int32} {p0_table : Int32} {p0_kept : Int32} {p0_book : Nat → Int32} {p1_row : Int32} {p1_table : Int32} {p1_kept : Int32} {p1_book : Nat → Int32} {p2_row : Int32} {p2_table : Int32} {p2_kept : Int32} {p2_book : Nat → Int32} {p3_row : Int32} {p3_table : Int32} {p3_kept : Int32} {p3_book : Nat → Int32} {m_pasts : Int32} {m_runs0 : Int32} {m_typed : Int32} {m_s : Nat → Int32} {m_past : Nat → Int32} {m_text : Nat → Int32} (h : Rel x_pastStates x_now_row x_now_table x_now_kept x_now_book x_text_length x_text_signs p0_row p0_table p0_kept p0_book p1_row p1_table p1_kept p1_book p2_row p2_table p2_kept p2_book p3_row p3_table p3_kept p3_book m_pasts m_runs0 m_typed m_s m_past m_text) (a1 : Int32) : ∃ rx rm, f_X5_letterAt F x_now_row a1 = some rx ∧ f_X6_letterAt F m_s a1 = some rm ∧ rx = rm ∧ Rel x_pastStates x_now_row x_now_table x_now_kept x_now_book x_text_length x_text_signs p0_row p0_table p0_kept p0_book p1_row p1_table p1_kept p1_book p2_row p2_table p2_kept p2_book p3_row p3_table p3_kept p3_book m_pasts m_runs0 m_typed m_s m_past m_text := by
  obtain ⟨⟨r, t, bk⟩, hs, tx, hC, hM, hH, hHM, rfl, hT⟩ := h
  have hr : RowOk r := hC.2.1
  have hl := hr.1
  have e3 : x_now_row = encR r := hC.1
  have e4 : m_s 0 = nI r.length := hM.1
  have key : ∃ v, f_X5_letterAt F x_now_row a1 = some v ∧ f_X6_letterAt F m_s a1 = some v := by
    unfold f_X5_letterAt f_X6_letterAt
    by_cases h0 : 0 ≤ a1
    · rw [if_pos h0, if_pos h0, e3, s_lengthOf F hr, ob_some, rd0 _ (by decide) (by decide), ob_some, e4]
      by_cases h1 : nI r.length ≤ a1
      · rw [if_pos h1, if_pos h1]
        exact ⟨_, rfl, rfl⟩
      · rw [if_neg h1, if_neg h1]
        obtain ⟨j, hj, rfl⟩ := nI_of (Int32.not_lt.mpr h0)
        have hjl : j < r.length := by have := mt (nI_leI (a := r.length) (b := j) (by omega) hj).mpr h1; omega
        rw [s_letterOf F hr (by omega), ob_some, show (1 : Int32) = nI 1 from rfl, nI_add, rd_ok _ (by omega) (by decide), ob_some, hM.2.1 j hjl]
        exact ⟨_, rfl, rfl⟩
    · rw [if_neg h0, if_neg h0]
      exact ⟨_, rfl, rfl⟩
  obtain ⟨v, k1, k2⟩ := key
  exact ⟨v, v, k1, k2, rfl, (r, t, bk), hs, tx, hC, hM, hH, hHM, rfl, hT⟩
theorem st_codeOf {F : Nat} (hF : 1100000 ≤ F) {x_pastStates : Int32} {x_now_row : Int32} {x_now_table : Int32} {x_now_kept : Int32} {x_now_book : Nat → Int32} {x_text_length : Int32} {x_text_signs : Nat → Int32} {p0_row : Int32} {p0_table : Int32} {p0_kept : Int32} {p0_book : Nat → Int32} {p1_row : Int32} {p1_table : Int32} {p1_kept : Int32} {p1_book : Nat → Int32} {p2_row : Int32} {p2_table : Int32} {p2_kept : Int32} {p2_book : Nat → Int32} {p3_row : Int32} {p3_table : Int32} {p3_kept : Int32} {p3_book : Nat → Int32} {m_pasts : Int32} {m_runs0 : Int32} {m_typed : Int32} {m_s : Nat → Int32} {m_past : Nat → Int32} {m_text : Nat → Int32} (h : Rel x_pastStates x_now_row x_now_table x_now_kept x_now_book x_text_length x_text_signs p0_row p0_table p0_kept p0_book p1_row p1_table p1_kept p1_book p2_row p2_table p2_kept p2_book p3_row p3_table p3_kept p3_book m_pasts m_runs0 m_typed m_s m_past m_text) (a1 : Int32) (a2 : Int32) : ∃ rx rm, f_X5_codeOf F x_now_table a1 a2 = some rx ∧ f_X6_codeOf F m_s a1 a2 = some rm ∧ rx = rm ∧ Rel x_pastStates x_now_row x_now_table x_now_kept x_now_book x_text_length x_text_signs p0_row p0_table p0_kept p0_book p1_row p1_table p1_kept p1_book p2_row p2_table p2_kept p2_book p3_row p3_table p3_kept p3_book m_pasts m_runs0 m_typed m_s m_past m_text := by
  obtain ⟨⟨r, t, bk⟩, hs, tx, hC, hM, hH, hHM, rfl, hT⟩ := h
  have htab : TabC x_now_table t := hC.2.2.1
  have key : ∃ v, f_X5_codeOf F x_now_table a1 a2 = some v ∧ f_X6_codeOf F m_s a1 a2 = some v := by
    unfold f_X5_codeOf f_X6_codeOf
    rcases c4 F a1 with ⟨e1, e2⟩ | ⟨a, ha, rfl, e1, e2⟩
    · rw [e1, e2, ob_some, ob_some, if_pos rfl, if_pos rfl]
      exact ⟨_, rfl, rfl⟩
    rcases c4 F a2 with ⟨f1, f2⟩ | ⟨b, hb, rfl, f1, f2⟩
    · rw [e1, e2, ob_some, ob_some, if_neg ne10, if_neg ne10, f1, f2, ob_some, ob_some, if_pos rfl, if_pos rfl]
      exact ⟨_, rfl, rfl⟩
    · rw [e1, e2, ob_some, ob_some, if_neg ne10, if_neg ne10, f1, f2, ob_some, ob_some, if_neg ne10, if_neg ne10, s_codeIn F htab ha hb, ob_some, tab_ix, rd_ok _ (by omega) (by decide), ob_some, hM.2.2.1 _ (by omega)]
      exact ⟨_, rfl, rfl⟩
  obtain ⟨v, k1, k2⟩ := key
  exact ⟨v, v, k1, k2, rfl, (r, t, bk), hs, tx, hC, hM, hH, hHM, rfl, hT⟩
theorem st_type {F : Nat} (hF : 1100000 ≤ F) {x_pastStates : Int32} {x_now_row : Int32} {x_now_table : Int32} {x_now_kept : Int32} {x_now_book : Nat → Int32} {x_text_length : Int32} {x_text_signs : Nat → Int32} {p0_row : Int32} {p0_table : Int32} {p0_kept : Int32} {p0_book : Nat → Int32} {p1_row : Int32} {p1_table : Int32} {p1_kept : Int32} {p1_book : Nat → Int32} {p2_row : Int32} {p2_table : Int32} {p2_kept : Int32} {p2_book : Nat → Int32} {p3_row : Int32} {p3_table : Int32} {p3_kept : Int32} {p3_book : Nat → Int32} {m_pasts : Int32} {m_runs0 : Int32} {m_typed : Int32} {m_s : Nat → Int32} {m_past : Nat → Int32} {m_text : Nat → Int32} (h : Rel x_pastStates x_now_row x_now_table x_now_kept x_now_book x_text_length x_text_signs p0_row p0_table p0_kept p0_book p1_row p1_table p1_kept p1_book p2_row p2_table p2_kept p2_book p3_row p3_table p3_kept p3_book m_pasts m_runs0 m_typed m_s m_past m_text) (a1 : Int32) : ∃ rx rm, f_X5_type F x_text_length x_text_signs a1 = some rx ∧ f_X6_type F m_typed m_text a1 = some rm ∧ rx.1 = rm.1 ∧ Rel x_pastStates x_now_row x_now_table x_now_kept x_now_book rx.2.1 rx.2.2 p0_row p0_table p0_kept p0_book p1_row p1_table p1_kept p1_book p2_row p2_table p2_kept p2_book p3_row p3_table p3_kept p3_book m_pasts m_runs0 rm.2.1 m_s m_past rm.2.2 := by
  obtain ⟨⟨r, t, bk⟩, hs, tx, hC, hM, hH, hHM, rfl, hT⟩ := h
  obtain ⟨rfl, rfl, hl, hx⟩ := hT
  have hsame : Rel x_pastStates x_now_row x_now_table x_now_kept x_now_book (nI tx.length) x_text_signs p0_row p0_table p0_kept p0_book p1_row p1_table p1_kept p1_book p2_row p2_table p2_kept p2_book p3_row p3_table p3_kept p3_book m_pasts 0 (nI tx.length) m_s m_past m_text := ⟨(r, t, bk), hs, tx, hC, hM, hH, hHM, rfl, rfl, rfl, hl, hx⟩
  have hin : (¬ a1 < 32 ∧ a1 ≤ 126) → ∃ j : Nat, 32 ≤ j ∧ j ≤ 126 ∧ a1 = nI j := by
    intro ⟨h1, h2⟩
    have h0 : ¬ a1 < 0 := fun e => h1 (Int32.lt_of_lt_of_le e (by decide))
    obtain ⟨j, hj, rfl⟩ := nI_of h0
    exact ⟨j, by have := mt (nI_ltI (a := j) (b := 32) hj (by decide)).mpr h1; omega, (nI_leI (a := j) (b := 126) hj (by decide)).mp h2, rfl⟩
  have mn : f_X6_in F a1 (32 : Int32) (126 : Int32) = some (if a1 < 32 ∨ (126 : Int32) < a1 then 0 else 1) := by
    unfold f_X6_in
    by_cases h1 : a1 < 32
    · rw [if_pos h1, if_pos (Or.inl h1)]; rfl
    · rw [if_neg h1]
      by_cases h2 : (126 : Int32) < a1
      · rw [if_pos h2, if_pos (Or.inr h2)]; rfl
      · rw [if_neg h2, if_neg (fun e => e.elim h1 h2)]; rfl
  have mn0 : (a1 < 32 ∨ (126 : Int32) < a1) → f_X6_in F a1 (32 : Int32) (126 : Int32) = some 0 := fun e => by rw [mn, if_pos e]
  have mn1 : ¬ (a1 < 32 ∨ (126 : Int32) < a1) → f_X6_in F a1 (32 : Int32) (126 : Int32) = some 1 := fun e => by rw [mn, if_neg e]
  by_cases h1 : a1 < 32
  · apply mkst
    · unfold f_X5_type; rw [if_pos h1]
    · unfold f_X6_type; rw [mn0 (Or.inl h1), ob_some, if_pos rfl]
    · exact ⟨rfl, hsame⟩
  by_cases h2 : a1 ≤ 126
  · have hn2 : ¬ (126 : Int32) < a1 := Int32.not_lt.mpr h2
    obtain ⟨c, hc1, hc2, rfl⟩ := hin ⟨h1, h2⟩
    by_cases h60 : tx.length < 60
    · apply mkst
      · unfold f_X5_type f_X2_put
        rw [if_neg h1, if_pos h2, if_pos (show nI tx.length < (60 : Int32) from nI_lt h60 (by decide)), if_neg (nI_pos (by omega)), if_neg (show ¬ (60 : Int32) ≤ nI tx.length from nI_ge h60 (by decide)), wr_ok _ _ h60 (by decide), ob_some, ob_some, ob_some, ob_some, show (1 : Int32) = nI 1 from rfl, nI_add]
      · unfold f_X6_type
        rw [mn1 (fun e => e.elim h1 hn2), ob_some, if_neg ne10, if_neg (show ¬ nI tx.length = (60 : Int32) from fun e => by have := nI_inj (a := tx.length) (b := 60) (by omega) (by decide) e; omega), wr_ok _ _ h60 (by decide), ob_some, ob_some, show (1 : Int32) = nI 1 from rfl, nI_add]
      · dsimp only
        refine ⟨rfl, (r, t, bk), hs, tx ++ [c], hC, hM, hH, hHM, rfl, ?_, ?_, ?_, ?_⟩
        · rw [List.length_append]; rfl
        · rw [List.length_append]; rfl
        · rw [List.length_append]; show tx.length + 1 ≤ 60; omega
        · intro i hi
          rw [List.length_append] at hi
          have hi : i < tx.length + 1 := hi
          by_cases e : i = tx.length
          · subst e
            rw [upd_s, upd_s, gl_last]
            exact ⟨rfl, rfl, hc1, hc2⟩
          · rw [upd_n _ _ e, upd_n _ _ e, gl_snoc (by omega)]
            exact hx i (by omega)
    · have e60 : tx.length = 60 := by omega
      apply mkst
      · unfold f_X5_type
        rw [if_neg h1, if_pos h2, if_neg (show ¬ nI tx.length < (60 : Int32) from nI_nlt (b := 60) (by omega) (by omega))]
      · unfold f_X6_type
        rw [mn1 (fun e => e.elim h1 hn2), ob_some, if_neg ne10, if_pos (show nI tx.length = (60 : Int32) by rw [e60]; rfl)]
      · exact ⟨rfl, hsame⟩
  · apply mkst
    · unfold f_X5_type; rw [if_neg h1, if_neg h2]
    · unfold f_X6_type; rw [mn0 (Or.inr (Int32.not_le.mp h2)), ob_some, if_pos rfl]
    · exact ⟨rfl, hsame⟩
theorem st_clearText {F : Nat} (hF : 1100000 ≤ F) {x_pastStates : Int32} {x_now_row : Int32} {x_now_table : Int32} {x_now_kept : Int32} {x_now_book : Nat → Int32} {x_text_length : Int32} {x_text_signs : Nat → Int32} {p0_row : Int32} {p0_table : Int32} {p0_kept : Int32} {p0_book : Nat → Int32} {p1_row : Int32} {p1_table : Int32} {p1_kept : Int32} {p1_book : Nat → Int32} {p2_row : Int32} {p2_table : Int32} {p2_kept : Int32} {p2_book : Nat → Int32} {p3_row : Int32} {p3_table : Int32} {p3_kept : Int32} {p3_book : Nat → Int32} {m_pasts : Int32} {m_runs0 : Int32} {m_typed : Int32} {m_s : Nat → Int32} {m_past : Nat → Int32} {m_text : Nat → Int32} (h : Rel x_pastStates x_now_row x_now_table x_now_kept x_now_book x_text_length x_text_signs p0_row p0_table p0_kept p0_book p1_row p1_table p1_kept p1_book p2_row p2_table p2_kept p2_book p3_row p3_table p3_kept p3_book m_pasts m_runs0 m_typed m_s m_past m_text) : ∃ rx rm, f_X5_clearText F x_text_length = some rx ∧ f_X6_clearText F m_typed = some rm ∧ rx.1 = rm.1 ∧ Rel x_pastStates x_now_row x_now_table x_now_kept x_now_book rx.2 x_text_signs p0_row p0_table p0_kept p0_book p1_row p1_table p1_kept p1_book p2_row p2_table p2_kept p2_book p3_row p3_table p3_kept p3_book m_pasts m_runs0 rm.2 m_s m_past m_text := by
  obtain ⟨S, hs, tx, hC, hM, hH, hHM, rfl, hT⟩ := h
  obtain ⟨rfl, rfl, hl, hx⟩ := hT
  exact ⟨_, _, rfl, rfl, rfl, S, hs, [], hC, hM, hH, hHM, rfl, rfl, rfl, Nat.zero_le _, fun i hi => absurd hi (Nat.not_lt_zero i)⟩
