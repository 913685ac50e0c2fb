theorem okN_iff {k : Nat} (hk : k < 4) {r w : List Nat} {t : Nat → Nat} (hr : RowOk r) (hl : w.length = r.length) (hw : ∀ x ∈ w, x < 4) (hL : SL r w) : okN k r t w = 1 ↔ ((KW k r t).P = true → SP r w ∧ gl r 0 = gl w 0) ∧ ((KW k r t).C = true → SC t r w) := by
  have h := KW_ok (t := t) hk hr hl hw
  have h2 := okW_arr (KW k r t) hr hl hw
  rw [h, Bool.and_eq_true, decide_eq_true_iff, beq_iff_eq] at h2
  constructor
  · intro e; exact (h2.mp ⟨hL, e⟩).2
  · intro e; exact (h2.mpr ⟨hL, e⟩).2
def KB (k l : Nat) (r : List Nat) (t : Nat → Nat) : WC := (r, t, (KW k r t).P || (KW l r t).P, (KW k r t).C || (KW l r t).C)
theorem KB_ok {k l : Nat} (hk : k < 4) (hl4 : l < 4) {r w : List Nat} {t : Nat → Nat} (hr : RowOk r) (hl : w.length = r.length) (hw : ∀ x ∈ w, x < 4) : (KB k l r t).okW (KB k l r t).c 0 0 w = (decide (SL r w) && (okN k r t w * okN l r t w == 1)) := by
  have h := okW_arr (KB k l r t) hr hl hw
  rw [Bool.eq_iff_iff, h, Bool.and_eq_true, decide_eq_true_iff, beq_iff_eq]
  refine and_congr_right (fun hL => ?_)
  have ik := okN_iff (t := t) hk hr hl hw hL
  have il := okN_iff (t := t) hl4 hr hl hw hL
  have e : okN k r t w * okN l r t w = 1 ↔ okN k r t w = 1 ∧ okN l r t w = 1 := by
    rcases okN_01 k r t w with a | a <;> rcases okN_01 l r t w with b | b <;> rw [a, b] <;> decide
  rw [e, ik, il]
  show (((KW k r t).P || (KW l r t).P) = true → SP r w ∧ gl r 0 = gl w 0) ∧ (((KW k r t).C || (KW l r t).C) = true → SC t r w) ↔ _
  rw [Bool.or_eq_true, Bool.or_eq_true]
  constructor
  · rintro ⟨a, b⟩
    exact ⟨⟨fun z => a (Or.inl z), fun z => b (Or.inl z)⟩, fun z => a (Or.inr z), fun z => b (Or.inr z)⟩
  · rintro ⟨⟨a, b⟩, c, d⟩
    exact ⟨fun z => z.elim a c, fun z => z.elim b d⟩
theorem KB_cs {k l : Nat} (hk : k < 4) (hl4 : l < 4) {r : List Nat} {t : Nat → Nat} (hr : RowOk r) : (KB k l r t).cs r.length (KB k l r t).c 0 = (Arr r).filter (fun q => okN k r t q * okN l r t q == 1) := by
  rw [cs_eq (KB k l r t) r.length _ 0 0 (Nat.zero_add _)]
  unfold Arr
  rw [List.filter_filter]
  refine List.filter_congr (fun w hw => ?_)
  obtain ⟨h1, h2⟩ := (mem_allW _ w).mp hw
  rw [KB_ok hk hl4 hr h1 h2, Bool.and_comm]
theorem s_openBoth {F : Nat} (hF : 1100000 ≤ F) {k l : Nat} (hk : k < 4) (hl4 : l < 4) {r : List Nat} {t : Nat → Nat} (hr : RowOk r) {tb : Int32} (hT : TabC tb t) (stock weight known found : Nat → Int32) (mw mx my mr mt : Int32) : ∃ z, f_X4_openBoth F stock weight known found mw mx my mr mt (encR r) tb (nI k) (nI l) = some z ∧ f_X4_total F z.2.1 z.2.2.2.2.2.2.2.2.2.2.2.2 = some (nI ((KB k l r t).cs r.length (KB k l r t).c 0).length) := by
  obtain ⟨e1, e2⟩ := KW_keeps F hk r t
  obtain ⟨e3, e4⟩ := KW_keeps F hl4 r t
  have ht : ∀ k, k < 16 → t k < 4 := fun k hk => (hT k hk).2
  obtain ⟨st, w', kn0, ep, hL, h0⟩ := s_prepare hF (K := KB k l r t) hr ht hT true stock weight known
  obtain ⟨kn, fd, es, i, kk, -⟩ := s_table hF (K := KB k l r t) hr ht hT hL h0 found (mm := true) (mw := mw) (mx := mx) (my := my) (mr := mr) (mt := mt) (gg := g00) (V := 1) (by decide) (by decide) (fun p a b _ _ _ => ⟨rfl, Nat.zero_le _⟩)
  have ep' : f_X4_prepare F true (nI (bN (KB k l r t).P)) stock weight known (encR r) tb = some (nI 1, encR r, encR ((KB k l r t).cds (r.length / 2)), tb, nI r.length, nI (lf (KB k l r t).c (KB k l r t).c 16), st, w', kn0) := ep
  have es' : f_X4_solve F 12 true (nI 1) (encR r) (encR ((KB k l r t).cds (r.length / 2))) tb (nI r.length) (nI (bN (KB k l r t).P)) (nI (bN (KB k l r t).C)) st w' kn0 found mw mx my mr mt (nI (lf (KB k l r t).c (KB k l r t).c 16)) (0 : Int32) (0 : Int32) = some (kn, fd) := es
  have eb : ∀ a b : Bool, (if nI (bN a) = (0 : Int32) then ((some (nI (bN b)) : Option Int32).bind fun z6 => if z6 = 0 then some (0 : Int32) else some 1) else some 1) = some (nI (bN (a || b))) := by
    intro a b
    cases a <;> cases b <;> rfl
  refine ⟨(true, nI 1, encR r, encR ((KB k l r t).cds (r.length / 2)), tb, nI r.length, nI (lf (KB k l r t).c (KB k l r t).c 16), nI (bN (KB k l r t).P), nI (bN (KB k l r t).C), st, w', kn, fd), ?_, s_total hF i kk⟩
  · unfold f_X4_openBoth
    rw [e1, ob_some, e3, eb, ob_some, ckz_b, ob_some, e2, ob_some, e4, eb, ob_some, ckz_b, ob_some]
    have ep2 : f_X4_prepare F true (nI (bN ((KW k r t).P || (KW l r t).P))) stock weight known (encR r) tb = _ := ep'
    have es2 : f_X4_solve F 12 true (nI 1) (encR r) (encR ((KB k l r t).cds (r.length / 2))) tb (nI r.length) (nI (bN ((KW k r t).P || (KW l r t).P))) (nI (bN ((KW k r t).C || (KW l r t).C))) st w' kn0 found mw mx my mr mt (nI (lf (KB k l r t).c (KB k l r t).c 16)) (0 : Int32) (0 : Int32) = _ := es'
    rw [ep2, ob_some, es2, ob_some]
    rfl
theorem st_common {F : Nat} (hF : 1100000 ≤ F) {x_pastStates : Int32} {x_now_row : Int32} {x_now_table : Int32} {x_now_kept : Int32} {x_now_book : Nat → Int32} {x_text_length : Int32} {x_text_signs : Nat → Int32} {p0_row : Int32} {p0_table : Int32} {p0_kept : Int32} {p0_book : Nat → Int32} {p1_row : Int32} {p1_table : Int32} {p1_kept : Int32} {p1_book : Nat → Int32} {p2_row : Int32} {p2_table : Int32} {p2_kept : Int32} {p2_book : Nat → Int32} {p3_row : Int32} {p3_table : Int32} {p3_kept : Int32} {p3_book : Nat → Int32} {m_pasts : Int32} {m_runs0 : Int32} {m_typed : Int32} {m_s : Nat → Int32} {m_past : Nat → Int32} {m_text : Nat → Int32} (h : Rel x_pastStates x_now_row x_now_table x_now_kept x_now_book x_text_length x_text_signs p0_row p0_table p0_kept p0_book p1_row p1_table p1_kept p1_book p2_row p2_table p2_kept p2_book p3_row p3_table p3_kept p3_book m_pasts m_runs0 m_typed m_s m_past m_text) (x_ways_measure : Bool) (x_ways_values : Int32) (x_ways_row : Int32) (x_ways_rowCodes : Int32) (x_ways_table : Int32) (x_ways_length : Int32) (x_ways_full : Int32) (x_ways_pairs : Int32) (x_ways_codes : Int32) (x_ways_stock : Nat → Int32) (x_ways_weight : Nat → Int32) (x_ways_known : Nat → Int32) (x_ways_found : Nat → Int32) (x_measured_which : Int32) (x_measured_x : Int32) (x_measured_y : Int32) (x_measured_row : Int32) (x_measured_table : Int32) (m_now : Nat → Int32) (m_kept : Nat → Int32) (a1 : Int32) (a2 : Int32) : ∃ rx rm, f_X5_common F x_now_row x_now_table x_ways_measure x_ways_values x_ways_row x_ways_rowCodes x_ways_table x_ways_length x_ways_full x_ways_pairs x_ways_codes x_ways_stock x_ways_weight x_ways_known x_ways_found x_measured_which x_measured_x x_measured_y x_measured_row x_measured_table a1 a2 = some rx ∧ f_X6_common F m_s m_now m_kept a1 a2 = some rm ∧ rx.1 = rm.1 ∧ Rel x_pastStates x_now_row x_now_table x_now_kept x_now_book x_text_length x_text_signs p0_row p0_table p0_kept p0_book p1_row p1_table p1_kept p1_book p2_row p2_table p2_kept p2_book p3_row p3_table p3_kept p3_book m_pasts m_runs0 m_typed m_s m_past m_text := by
  obtain ⟨⟨r, t, bk⟩, hs, tx, hC, hM, hH, hHM, rfl, hT⟩ := h
  have hr : RowOk r := hC.2.1
  have e3 : x_now_row = encR r := hC.1
  have htab : TabC x_now_table t := hC.2.2.1
  have hR : Rel x_pastStates x_now_row x_now_table x_now_kept x_now_book x_text_length x_text_signs p0_row p0_table p0_kept p0_book p1_row p1_table p1_kept p1_book p2_row p2_table p2_kept p2_book p3_row p3_table p3_kept p3_book m_pasts 0 m_typed m_s m_past m_text := ⟨(r, t, bk), hs, tx, hC, hM, hH, hHM, rfl, hT⟩
  rcases c4 F a1 with ⟨e1, e2⟩ | ⟨k, hk, rfl, e1, e2⟩
  · apply mkst
    · unfold f_X5_common; rw [e1, ob_some, if_pos rfl]
    · unfold f_X6_common; rw [e2, ob_some, if_pos rfl]
    · exact ⟨rfl, hR⟩
  rcases c4 F a2 with ⟨g1, g2⟩ | ⟨l, hl4, rfl, g1, g2⟩
  · apply mkst
    · unfold f_X5_common; rw [e1, ob_some, if_neg ne10, g1, ob_some, if_pos rfl]
    · unfold f_X6_common; rw [e2, ob_some, if_neg ne10, g2, ob_some, if_pos rfl]
    · exact ⟨rfl, hR⟩
  obtain ⟨z, eo, et⟩ := s_openBoth hF hk hl4 hr htab x_ways_stock x_ways_weight x_ways_known x_ways_found x_measured_which x_measured_x x_measured_y x_measured_row x_measured_table
  obtain ⟨now', kept', em⟩ := s_common hF hM hr (fun k hk => (htab k hk).2) m_now m_kept hk hl4 e2 g2
  rw [KB_cs hk hl4 hr] at et
  apply mkst
  · unfold f_X5_common
    rw [e1, ob_some, if_neg ne10, g1, ob_some, if_neg ne10, e3, eo, ob_some, et, ob_some]
  · exact em
  · exact ⟨rfl, hR⟩
