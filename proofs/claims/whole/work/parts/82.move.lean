theorem s_takes {F : Nat} (hF : 1100000 ≤ F) {s : Nat → Int32} {r w : List Nat} {t : Nat → Nat} {bk : List (List Nat)} (h : StM s (r, t, bk)) (hr : RowOk r) (hl : w.length = r.length) {now : Nat → Int32} (hv : Nw now w) : ∃ s', f_X6_takes F s now = some s' ∧ StM s' (w, t, bk) := by
  have h10 := hr.1
  have key : ∀ (d n k : Nat) (g : Nat → Int32), k + d = r.length → d < n → g 0 = nI r.length → (∀ i, i < k → g (1 + i) = nI (gl w i)) → (∀ j, 11 ≤ j → g j = s j) → ∃ g', f_X6_takes_L2 F now n (nI k) g = some g' ∧ g' 0 = nI r.length ∧ (∀ i, i < r.length → g' (1 + i) = nI (gl w i)) ∧ (∀ j, 11 ≤ j → g' j = s j) := by
    intro d
    induction d with
    | zero =>
      intro n k g hk hn h0 h1 h2
      obtain ⟨n, rfl⟩ : ∃ k, n = k + 1 := ⟨n - 1, by omega⟩
      exact ⟨g, by rw [f_X6_takes_L2, rd0 _ (by decide) (by decide), ob_some, h0, if_pos (nI_le (by omega) (by omega))], h0, fun i hi => h1 i (by omega), h2⟩
    | succ d ih =>
      intro n k g hk hn h0 h1 h2
      obtain ⟨n, rfl⟩ : ∃ k, n = k + 1 := ⟨n - 1, by omega⟩
      obtain ⟨g', e, p⟩ := ih n (k + 1) (upd g (1 + k) (nI (gl w k))) (by omega) (by omega) (by rw [upd_n _ _ (by omega)]; exact h0) (fun i hi => by
        by_cases e : i = k
        · rw [e, upd_s]
        · rw [upd_n _ _ (by omega)]; exact h1 i (by omega)) (fun j hj => by rw [upd_n _ _ (by omega)]; exact h2 j hj)
      refine ⟨g', ?_, p⟩
      rw [f_X6_takes_L2, rd0 _ (by decide) (by decide), ob_some, h0, if_neg (nI_ge (by omega) (by omega)), rd_ok _ (by omega) (by decide), ob_some, (hv.at (show k < w.length by omega)).1, show (1 : Int32) = nI 1 from rfl, nI_add, wr_ok _ _ (by omega) (by decide), ob_some, nI_add, ob_some]
      exact e
  obtain ⟨g', e, p0, p1, p2⟩ := key r.length F 0 s (by omega) (by omega) h.1 (fun i hi => absurd hi (by omega)) (fun _ _ => rfl)
  have e' : f_X6_takes_L2 F now F (0 : Int32) s = some g' := e
  refine ⟨g', by unfold f_X6_takes; rw [e', ob_some], h.row (by rw [hl]; exact p0) (fun i hi => p1 i (by omega)) p2⟩
theorem s_unlike {F : Nat} (hF : 1100000 ≤ F) {r w : List Nat} (hr : RowOk r) (hw : RowOk w) (hl : w.length = r.length) : f_X5_unlikePlaces F (encR r) (encR w) = some (nI (r.length - agr r w)) := by
  have h10 := hr.1
  have key := loop_sum (Lp := f_X5_unlikePlaces_L4 F (encR r) (encR w)) (N := r.length) 0 (f := fun i => if gl w i = gl r i then 0 else 1) ?_ ?_ r.length F 0 0 (Nat.le_refl _) rfl (by omega) (by omega)
  · have es : ∀ d k, sumF (fun i => if gl w i = gl r i then 0 else 1) k d + sumF (fun i => if gl w i = gl r i then 1 else 0) k d = d := by
      intro d k
      rw [← sumF_add, sumF_cong (g := fun _ => 1) d k (fun i _ _ => by by_cases c : gl w i = gl r i <;> simp [c]), sumF_one]
    have e2 := es r.length 0
    unfold f_X5_unlikePlaces
    rw [show (0 : Int32) = nI 0 from rfl, key, ob_some, Nat.zero_add]
    congr 2
    unfold agr
    omega
  · intro n a k h1 h2
    rw [f_X5_unlikePlaces_L4, s_lengthOf F hr, ob_some, if_pos (nI_le h1 (by omega))]
  · intro n a k _ hk
    have g1 := gl_lt hr.2 k
    have g2 := gl_lt hw.2 k
    rw [f_X5_unlikePlaces_L4, s_lengthOf F hr, ob_some, if_neg (nI_ge hk (by omega)), s_letterOf F hr (by omega), ob_some, s_letterOf F hw (by omega), ob_some]
    by_cases c : gl w k = gl r k
    · rw [if_pos (by rw [c]), ob_some, if_pos c, Nat.add_zero, show (1 : Int32) = nI 1 from rfl, nI_add, ob_some]
    · rw [if_neg (nIlit (by omega) (by omega) (fun z => c z.symm)), if_neg c, show (1 : Int32) = nI 1 from rfl, nI_add, ob_some, ob_some, nI_add, ob_some]
theorem s_chg1 (F : Nat) (ps : Int32) (s past : Nat → Int32) : f_X6_changes F ps 1 s past = some (ps, past) := by
  unfold f_X6_changes
  rw [if_neg ne10]
theorem s_moves {F : Nat} (hF : 1100000 ≤ F) {s : Nat → Int32} {r : List Nat} {t : Nat → Nat} {bk : List (List Nat)} (h : StM s (r, t, bk)) (hr : RowOk r) (ht : ∀ k, k < 16 → t k < 4) (now kept : Nat → Int32) {k : Nat} (hk4 : k < 4) (ps ru : Int32) (past : Nat → Int32) {rm : Int32 × (Nat → Int32)} (hc : f_X6_changes F ps ru s past = some rm) {j : Nat} (hj : j < 2 ^ 31) : (∀ w, (SH k (r, t, bk))[j]? = some w → ∃ s' now' kept', f_X6_moves F ps ru s past now kept (nI k) (nI j) = some (nI j, rm.1, s', rm.2, now', kept') ∧ StM s' (w, t, bk)) ∧ ((SH k (r, t, bk))[j]? = none → ∃ now' kept', f_X6_moves F ps ru s past now kept (nI k) (nI j) = some (-1000002, ps, s, past, now', kept')) := by
  have hf := s_finds hF (S := (r, t, bk)) h hr ht now kept hk4 hj
  constructor
  · intro w hw
    obtain ⟨now', kept', e, hv⟩ := hf.1 w hw
    obtain ⟨s', e2, h2⟩ := s_takes hF h hr (SH_ok hr hw).2 hv
    refine ⟨s', now', kept', ?_, h2⟩
    unfold f_X6_moves
    rw [if_neg (nI_pos hj), e, ob_some, if_neg ne10, hc, ob_some, e2, ob_some]
  · intro hw
    obtain ⟨now', kept', e⟩ := hf.2 hw
    refine ⟨now', kept', ?_⟩
    unfold f_X6_moves
    rw [if_neg (nI_pos hj), e, ob_some, if_pos rfl]
theorem st_placeOf {F : Nat} (hF : 1100000 ≤ F) {x_pastStates : Int32} {x_now_row : Int32} {x_now_table : Int32} {x_now_kept : Int32} {x_now_book : Nat → Int32} {x_text_length : Int32} {x_text_signs : Nat → Int32} {p0_row : Int32} {p0_table : Int32} {p0_kept : Int32} {p0_book : Nat → Int32} {p1_row : Int32} {p1_table : Int32} {p1_kept : Int32} {p1_book : Nat → Int32} {p2_row : Int32} {p2_table : Int32} {p2_kept : Int32} {p2_book : Nat → Int32} {p3_row : Int32} {p3_table : Int32} {p3_kept : Int32} {p3_book : Nat → Int32} {m_pasts : Int32} {m_runs0 : Int32} {m_typed : Int32} {m_s : Nat → Int32} {m_past : Nat → Int32} {m_text : Nat → Int32} (h : Rel x_pastStates x_now_row x_now_table x_now_kept x_now_book x_text_length x_text_signs p0_row p0_table p0_kept p0_book p1_row p1_table p1_kept p1_book p2_row p2_table p2_kept p2_book p3_row p3_table p3_kept p3_book m_pasts m_runs0 m_typed m_s m_past m_text) (x_ways_measure : Bool) (x_ways_values : Int32) (x_ways_row : Int32) (x_ways_rowCodes : Int32) (x_ways_table : Int32) (x_ways_length : Int32) (x_ways_full : Int32) (x_ways_pairs : Int32) (x_ways_codes : Int32) (x_ways_stock : Nat → Int32) (x_ways_weight : Nat → Int32) (x_ways_known : Nat → Int32) (x_ways_found : Nat → Int32) (x_measured_which : Int32) (x_measured_x : Int32) (x_measured_y : Int32) (x_measured_row : Int32) (x_measured_table : Int32) (m_now : Nat → Int32) (m_kept : Nat → Int32) (a1 : Int32) : ∃ rx rm, f_X5_placeOf F x_now_row x_now_table x_ways_measure x_ways_values x_ways_row x_ways_rowCodes x_ways_table x_ways_length x_ways_full x_ways_pairs x_ways_codes x_ways_stock x_ways_weight x_ways_known x_ways_found x_measured_which x_measured_x x_measured_y x_measured_row x_measured_table a1 = some rx ∧ f_X6_placeOf F m_s m_now m_kept a1 = some rm ∧ rx.1 = rm.1 ∧ Rel x_pastStates x_now_row x_now_table x_now_kept x_now_book x_text_length x_text_signs p0_row p0_table p0_kept p0_book p1_row p1_table p1_kept p1_book p2_row p2_table p2_kept p2_book p3_row p3_table p3_kept p3_book m_pasts m_runs0 m_typed m_s m_past m_text := by
  obtain ⟨⟨r, t, bk⟩, hs, tx, hC, hM, hH, hHM, rfl, hT⟩ := h
  have hr : RowOk r := hC.2.1
  have e3 : x_now_row = encR r := hC.1
  have htab : TabC x_now_table t := hC.2.2.1
  have hR : Rel x_pastStates x_now_row x_now_table x_now_kept x_now_book x_text_length x_text_signs p0_row p0_table p0_kept p0_book p1_row p1_table p1_kept p1_book p2_row p2_table p2_kept p2_book p3_row p3_table p3_kept p3_book m_pasts 0 m_typed m_s m_past m_text := ⟨(r, t, bk), hs, tx, hC, hM, hH, hHM, rfl, hT⟩
  rcases c4 F a1 with ⟨e1, e2⟩ | ⟨k, hk, rfl, e1, e2⟩
  · apply mkst
    · unfold f_X5_placeOf; rw [e1, ob_some, if_pos rfl]
    · unfold f_X6_placeOf; rw [e2, ob_some, if_pos rfl, ob_some]
    · exact ⟨rfl, hR⟩
  obtain ⟨pre, post, now', kept', hS, em⟩ := s_place hF hM hr (fun k hk => (htab k hk).2) m_now m_kept hk
  obtain ⟨z, eo, -, ep, -⟩ := s_ways hF hk hr bk htab x_ways_stock x_ways_weight x_ways_known x_ways_found x_measured_which x_measured_x x_measured_y x_measured_row x_measured_table hS
  apply mkst
  · unfold f_X5_placeOf
    rw [e1, ob_some, if_neg ne10, e3, eo, ob_some, ep, ob_some]
  · unfold f_X6_placeOf
    rw [e2, ob_some, if_neg ne10, em, ob_some, ob_some]
  · exact ⟨rfl, hR⟩
theorem st_shuffleAt {F : Nat} (hF : 1100000 ≤ F) {x_pastStates : Int32} {x_now_row : Int32} {x_now_table : Int32} {x_now_kept : Int32} {x_now_book : Nat → Int32} {x_text_length : Int32} {x_text_signs : Nat → Int32} {p0_row : Int32} {p0_table : Int32} {p0_kept : Int32} {p0_book : Nat → Int32} {p1_row : Int32} {p1_table : Int32} {p1_kept : Int32} {p1_book : Nat → Int32} {p2_row : Int32} {p2_table : Int32} {p2_kept : Int32} {p2_book : Nat → Int32} {p3_row : Int32} {p3_table : Int32} {p3_kept : Int32} {p3_book : Nat → Int32} {m_pasts : Int32} {m_runs0 : Int32} {m_typed : Int32} {m_s : Nat → Int32} {m_past : Nat → Int32} {m_text : Nat → Int32} (h : Rel x_pastStates x_now_row x_now_table x_now_kept x_now_book x_text_length x_text_signs p0_row p0_table p0_kept p0_book p1_row p1_table p1_kept p1_book p2_row p2_table p2_kept p2_book p3_row p3_table p3_kept p3_book m_pasts m_runs0 m_typed m_s m_past m_text) (x_ways_measure : Bool) (x_ways_values : Int32) (x_ways_row : Int32) (x_ways_rowCodes : Int32) (x_ways_table : Int32) (x_ways_length : Int32) (x_ways_full : Int32) (x_ways_pairs : Int32) (x_ways_codes : Int32) (x_ways_stock : Nat → Int32) (x_ways_weight : Nat → Int32) (x_ways_known : Nat → Int32) (x_ways_found : Nat → Int32) (x_measured_which : Int32) (x_measured_x : Int32) (x_measured_y : Int32) (x_measured_row : Int32) (x_measured_table : Int32) (m_now : Nat → Int32) (m_kept : Nat → Int32) (a1 : Int32) (a2 : Int32) (a3 : Int32) : ∃ rx rm, f_X5_shuffleAt F x_now_row x_now_table x_ways_measure x_ways_values x_ways_row x_ways_rowCodes x_ways_table x_ways_length x_ways_full x_ways_pairs x_ways_codes x_ways_stock x_ways_weight x_ways_known x_ways_found x_measured_which x_measured_x x_measured_y x_measured_row x_measured_table a1 a2 a3 = some rx ∧ f_X6_shuffleAt F m_s m_now m_kept a1 a2 a3 = some rm ∧ rx.1 = rm.1 ∧ Rel x_pastStates x_now_row x_now_table x_now_kept x_now_book x_text_length x_text_signs p0_row p0_table p0_kept p0_book p1_row p1_table p1_kept p1_book p2_row p2_table p2_kept p2_book p3_row p3_table p3_kept p3_book m_pasts m_runs0 m_typed m_s m_past m_text := by
  obtain ⟨⟨r, t, bk⟩, hs, tx, hC, hM, hH, hHM, rfl, hT⟩ := h
  have hr : RowOk r := hC.2.1
  have h10 : r.length ≤ 10 := hr.1
  have e3 : x_now_row = encR r := hC.1
  have e4 : m_s 0 = nI r.length := hM.1
  have htab : TabC x_now_table t := hC.2.2.1
  have hR : Rel x_pastStates x_now_row x_now_table x_now_kept x_now_book x_text_length x_text_signs p0_row p0_table p0_kept p0_book p1_row p1_table p1_kept p1_book p2_row p2_table p2_kept p2_book p3_row p3_table p3_kept p3_book m_pasts 0 m_typed m_s m_past m_text := ⟨(r, t, bk), hs, tx, hC, hM, hH, hHM, rfl, hT⟩
  rcases c4 F a1 with ⟨e1, e2⟩ | ⟨k, hk, rfl, e1, e2⟩
  · apply mkst
    · unfold f_X5_shuffleAt; rw [e1, ob_some, if_pos rfl]
    · unfold f_X6_shuffleAt; rw [e2, ob_some, if_pos rfl]
    · exact ⟨rfl, hR⟩
  by_cases h2 : a2 < 0
  · apply mkst
    · unfold f_X5_shuffleAt; rw [e1, ob_some, if_neg ne10, if_pos h2]
    · unfold f_X6_shuffleAt; rw [e2, ob_some, if_neg ne10, if_pos h2]
    · exact ⟨rfl, hR⟩
  obtain ⟨j, hj, rfl⟩ := nI_of h2
  by_cases h3 : 0 ≤ a3
  · obtain ⟨p, hp, rfl⟩ := nI_of (Int32.not_lt.mpr h3)
    by_cases h5 : p < r.length
    · obtain ⟨pre, post, -, -, hS, -⟩ := s_place hF hM hr (fun k hk => (htab k hk).2) m_now m_kept hk
      obtain ⟨z, eo, et, -, er⟩ := s_ways hF hk hr bk htab x_ways_stock x_ways_weight x_ways_known x_ways_found x_measured_which x_measured_x x_measured_y x_measured_row x_measured_table hS
      have hf := s_finds hF (S := (r, t, bk)) hM hr (fun k hk => (htab k hk).2) m_now m_kept hk hj
      have hSl := SH_len (k := k) (t := t) (bk := bk) hr
      cases hw : (SH k (r, t, bk))[j]? with
      | none =>
        obtain ⟨now', kept', em⟩ := hf.2 hw
        have hlen := List.getElem?_eq_none_iff.mp hw
        apply mkst
        · unfold f_X5_shuffleAt
          rw [e1, ob_some, if_neg ne10, if_neg h2, if_pos h3, e3, s_lengthOf F hr, ob_some, if_pos (nI_lt h5 (by omega)), eo, ob_some, et, ob_some, if_pos (nI_le hlen hj), ob_some]
        · unfold f_X6_shuffleAt
          rw [e2, ob_some, if_neg ne10, if_neg h2, if_pos h3, rd0 _ (by decide) (by decide), ob_some, e4, if_neg (nI_ge h5 (by omega)), em, ob_some, if_pos rfl, ob_some]
        · exact ⟨rfl, hR⟩
      | some w =>
        obtain ⟨now', kept', em, hv⟩ := hf.1 w hw
        have hlen := (List.getElem?_eq_some_iff.mp hw).1
        obtain ⟨hwo, hwl⟩ := SH_ok hr hw
        apply mkst
        · unfold f_X5_shuffleAt
          rw [e1, ob_some, if_neg ne10, if_neg h2, if_pos h3, e3, s_lengthOf F hr, ob_some, if_pos (nI_lt h5 (by omega)), eo, ob_some, et, ob_some, if_neg (nI_ge hlen (by omega)), er j w hw, ob_some, s_letterOf F hwo (by omega), ob_some, ob_some]
        · unfold f_X6_shuffleAt
          rw [e2, ob_some, if_neg ne10, if_neg h2, if_pos h3, rd0 _ (by decide) (by decide), ob_some, e4, if_neg (nI_ge h5 (by omega)), em, ob_some, if_neg ne10, rd_ok _ (by omega) (by decide), ob_some, ob_some]
        · exact ⟨(hv.at (by omega)).1.symm, hR⟩
    · apply mkst
      · unfold f_X5_shuffleAt
        rw [e1, ob_some, if_neg ne10, if_neg h2, if_pos h3, e3, s_lengthOf F hr, ob_some, if_neg (nI_nlt (by omega) hp)]
      · unfold f_X6_shuffleAt
        rw [e2, ob_some, if_neg ne10, if_neg h2, if_pos h3, rd0 _ (by decide) (by decide), ob_some, e4, if_pos (nI_le (by omega) hp), ob_some]
      · exact ⟨rfl, e3 ▸ hR⟩
  · apply mkst
    · unfold f_X5_shuffleAt; rw [e1, ob_some, if_neg ne10, if_neg h2, if_neg h3]
    · unfold f_X6_shuffleAt; rw [e2, ob_some, if_neg ne10, if_neg h2, if_neg h3]
    · exact ⟨rfl, hR⟩
theorem st_at {F : Nat} (hF : 1100000 ≤ F) {x_pastStates : Int32} {x_now_row : Int32} {x_now_table : Int32} {x_now_kept : Int32} {x_now_book : Nat → Int32} {x_text_length : Int32} {x_text_signs : Nat → Int32} {p0_row : Int32} {p0_table : Int32} {p0_kept : Int32} {p0_book : Nat → Int32} {p1_row : Int32} {p1_table : Int32} {p1_kept : Int32} {p1_book : Nat → Int32} {p2_row : Int32} {p2_table : Int32} {p2_kept : Int32} {p2_book : Nat → Int32} {p3_row : Int32} {p3_table : Int32} {p3_kept : Int32} {p3_book : Nat → Int32} {m_pasts : Int32} {m_runs0 : Int32} {m_typed : Int32} {m_s : Nat → Int32} {m_past : Nat → Int32} {m_text : Nat → Int32} (h : Rel x_pastStates x_now_row x_now_table x_now_kept x_now_book x_text_length x_text_signs p0_row p0_table p0_kept p0_book p1_row p1_table p1_kept p1_book p2_row p2_table p2_kept p2_book p3_row p3_table p3_kept p3_book m_pasts m_runs0 m_typed m_s m_past m_text) (x_ways_measure : Bool) (x_ways_values : Int32) (x_ways_row : Int32) (x_ways_rowCodes : Int32) (x_ways_table : Int32) (x_ways_length : Int32) (x_ways_full : Int32) (x_ways_pairs : Int32) (x_ways_codes : Int32) (x_ways_stock : Nat → Int32) (x_ways_weight : Nat → Int32) (x_ways_known : Nat → Int32) (x_ways_found : Nat → Int32) (x_measured_which : Int32) (x_measured_x : Int32) (x_measured_y : Int32) (x_measured_row : Int32) (x_measured_table : Int32) (m_now : Nat → Int32) (m_kept : Nat → Int32) (a1 : Int32) (a2 : Int32) : ∃ rx rm, f_X5_at F x_pastStates x_now_row x_now_table x_now_kept x_now_book x_ways_measure x_ways_values x_ways_row x_ways_rowCodes x_ways_table x_ways_length x_ways_full x_ways_pairs x_ways_codes x_ways_stock x_ways_weight x_ways_known x_ways_found x_measured_which x_measured_x x_measured_y x_measured_row x_measured_table p0_row p0_table p0_kept p0_book p1_row p1_table p1_kept p1_book p2_row p2_table p2_kept p2_book p3_row p3_table p3_kept p3_book a1 a2 = some rx ∧ f_X6_at F m_pasts m_runs0 m_s m_past m_now m_kept a1 a2 = some rm ∧ rx.1 = rm.1 ∧ Rel rx.2.1 rx.2.2.1 x_now_table x_now_kept x_now_book x_text_length x_text_signs rx.2.2.2.2.2.2.2.2.2.2.2.2.2.2.2.2.1 rx.2.2.2.2.2.2.2.2.2.2.2.2.2.2.2.2.2.1 rx.2.2.2.2.2.2.2.2.2.2.2.2.2.2.2.2.2.2.1 rx.2.2.2.2.2.2.2.2.2.2.2.2.2.2.2.2.2.2.2.1 rx.2.2.2.2.2.2.2.2.2.2.2.2.2.2.2.2.2.2.2.2.1 rx.2.2.2.2.2.2.2.2.2.2.2.2.2.2.2.2.2.2.2.2.2.1 rx.2.2.2.2.2.2.2.2.2.2.2.2.2.2.2.2.2.2.2.2.2.2.1 rx.2.2.2.2.2.2.2.2.2.2.2.2.2.2.2.2.2.2.2.2.2.2.2.1 rx.2.2.2.2.2.2.2.2.2.2.2.2.2.2.2.2.2.2.2.2.2.2.2.2.1 rx.2.2.2.2.2.2.2.2.2.2.2.2.2.2.2.2.2.2.2.2.2.2.2.2.2.1 rx.2.2.2.2.2.2.2.2.2.2.2.2.2.2.2.2.2.2.2.2.2.2.2.2.2.2.1 rx.2.2.2.2.2.2.2.2.2.2.2.2.2.2.2.2.2.2.2.2.2.2.2.2.2.2.2.1 rx.2.2.2.2.2.2.2.2.2.2.2.2.2.2.2.2.2.2.2.2.2.2.2.2.2.2.2.2.1 rx.2.2.2.2.2.2.2.2.2.2.2.2.2.2.2.2.2.2.2.2.2.2.2.2.2.2.2.2.2.1 rx.2.2.2.2.2.2.2.2.2.2.2.2.2.2.2.2.2.2.2.2.2.2.2.2.2.2.2.2.2.2.1 rx.2.2.2.2.2.2.2.2.2.2.2.2.2.2.2.2.2.2.2.2.2.2.2.2.2.2.2.2.2.2.2 rm.2.1 m_runs0 m_typed rm.2.2.1 rm.2.2.2.1 m_text := by
  obtain ⟨⟨r, t, bk⟩, hs, tx, hC, hM, hH, hHM, rfl, hT⟩ := h
  have hr : RowOk r := hC.2.1
  have h10 : r.length ≤ 10 := hr.1
  have e3 : x_now_row = encR r := hC.1
  have e4 : m_s 0 = nI r.length := hM.1
  have htab : TabC x_now_table t := hC.2.2.1
  rcases c4 F a1 with ⟨e1, e2⟩ | ⟨k, hk, rfl, e1, e2⟩
  · apply mkst
    · unfold f_X5_at; rw [e1, ob_some, if_pos rfl]
    · unfold f_X6_at; rw [e2, ob_some, if_pos rfl]
    · exact ⟨rfl, (r, t, bk), hs, tx, hC, hM, hH, hHM, rfl, hT⟩
  by_cases h2 : 0 ≤ a2
  · obtain ⟨j, hj, rfl⟩ := nI_of (Int32.not_lt.mpr h2)
    obtain ⟨pre, post, -, -, hS, -⟩ := s_place hF hM hr (fun k hk => (htab k hk).2) m_now m_kept hk
    obtain ⟨z, eo, et, -, er⟩ := s_ways hF hk hr bk htab x_ways_stock x_ways_weight x_ways_known x_ways_found x_measured_which x_measured_x x_measured_y x_measured_row x_measured_table hS
    have hf := s_finds hF (S := (r, t, bk)) hM hr (fun k hk => (htab k hk).2) m_now m_kept hk hj
    have hSl := SH_len (k := k) (t := t) (bk := bk) hr
    cases hw : (SH k (r, t, bk))[j]? with
    | none =>
      obtain ⟨now', kept', em⟩ := hf.2 hw
      have hlen := List.getElem?_eq_none_iff.mp hw
      apply mkst
      · unfold f_X5_at
        rw [e1, ob_some, if_neg ne10, if_pos h2, e3, eo, ob_some, et, ob_some, if_neg (nI_nlt hlen hj)]
      · unfold f_X6_at
        rw [e2, ob_some, if_neg ne10, if_pos h2, em, ob_some, if_pos rfl]
      · exact ⟨rfl, (r, t, bk), hs, tx, e3 ▸ hC, hM, hH, hHM, rfl, hT⟩
    | some w =>
      obtain ⟨now', kept', em, hv⟩ := hf.1 w hw
      have hlen := (List.getElem?_eq_some_iff.mp hw).1
      obtain ⟨hwo, hwl⟩ := SH_ok hr hw
      obtain ⟨y, ey, hy⟩ := s_record F hC hH
      obtain ⟨m, ec, hm⟩ := s_changes hF hHM hH.2.1 hM hC.ok hH.ok
      obtain ⟨s', e5, hs'⟩ := s_takes hF hM hr hwl hv
      have e6 := s_same hF (S := (r, t, bk)) hM hr hv hwl
      have e7 := agr_le r w
      rw [e3] at ey
      apply mkst
      · unfold f_X5_at
        rw [e1, ob_some, if_neg ne10, if_pos h2, e3, eo, ob_some, et, ob_some, if_pos (nI_lt hlen (by omega)), ey, ob_some, er j w hw, ob_some, s_unlike hF hr hwo hwl, ob_some]
      · unfold f_X6_at
        rw [e2, ob_some, if_neg ne10, if_pos h2, em, ob_some, if_neg ne10, ec, ob_some, rd0 _ (by decide) (by decide), ob_some, e6, ob_some, e4, nI_sub e7, ob_some, e5, ob_some]
      · exact ⟨rfl, (w, t, bk), push hs (r, t, bk), tx, hC.row rfl hwo, hs', hy, hm, rfl, hT⟩
  · apply mkst
    · unfold f_X5_at; rw [e1, ob_some, if_neg ne10, if_neg h2]
    · unfold f_X6_at; rw [e2, ob_some, if_neg ne10, if_neg h2]
    · exact ⟨rfl, (r, t, bk), hs, tx, hC, hM, hH, hHM, rfl, hT⟩
theorem st_next {F : Nat} (hF : 1100000 ≤ F) {x_pastStates : Int32} {x_now_row : Int32} {x_now_table : Int32} {x_now_kept : Int32} {x_now_book : Nat → Int32} {x_text_length : Int32} {x_text_signs : Nat → Int32} {p0_row : Int32} {p0_table : Int32} {p0_kept : Int32} {p0_book : Nat → Int32} {p1_row : Int32} {p1_table : Int32} {p1_kept : Int32} {p1_book : Nat → Int32} {p2_row : Int32} {p2_table : Int32} {p2_kept : Int32} {p2_book : Nat → Int32} {p3_row : Int32} {p3_table : Int32} {p3_kept : Int32} {p3_book : Nat → Int32} {m_pasts : Int32} {m_runs0 : Int32} {m_typed : Int32} {m_s : Nat → Int32} {m_past : Nat → Int32} {m_text : Nat → Int32} (h : Rel x_pastStates x_now_row x_now_table x_now_kept x_now_book x_text_length x_text_signs p0_row p0_table p0_kept p0_book p1_row p1_table p1_kept p1_book p2_row p2_table p2_kept p2_book p3_row p3_table p3_kept p3_book m_pasts m_runs0 m_typed m_s m_past m_text) (x_ways_measure : Bool) (x_ways_values : Int32) (x_ways_row : Int32) (x_ways_rowCodes : Int32) (x_ways_table : Int32) (x_ways_length : Int32) (x_ways_full : Int32) (x_ways_pairs : Int32) (x_ways_codes : Int32) (x_ways_stock : Nat → Int32) (x_ways_weight : Nat → Int32) (x_ways_known : Nat → Int32) (x_ways_found : Nat → Int32) (x_measured_which : Int32) (x_measured_x : Int32) (x_measured_y : Int32) (x_measured_row : Int32) (x_measured_table : Int32) (m_now : Nat → Int32) (m_kept : Nat → Int32) (a1 : Int32) : ∃ rx rm, f_X5_next F x_pastStates x_now_row x_now_table x_now_kept x_now_book x_ways_measure x_ways_values x_ways_row x_ways_rowCodes x_ways_table x_ways_length x_ways_full x_ways_pairs x_ways_codes x_ways_stock x_ways_weight x_ways_known x_ways_found x_measured_which x_measured_x x_measured_y x_measured_row x_measured_table p0_row p0_table p0_kept p0_book p1_row p1_table p1_kept p1_book p2_row p2_table p2_kept p2_book p3_row p3_table p3_kept p3_book a1 = some rx ∧ f_X6_next F m_pasts m_runs0 m_s m_past m_now m_kept a1 = some rm ∧ rx.1 = rm.1 ∧ Rel rx.2.1 rx.2.2.1 x_now_table x_now_kept x_now_book x_text_length x_text_signs rx.2.2.2.2.2.2.2.2.2.2.2.2.2.2.2.2.1 rx.2.2.2.2.2.2.2.2.2.2.2.2.2.2.2.2.2.1 rx.2.2.2.2.2.2.2.2.2.2.2.2.2.2.2.2.2.2.1 rx.2.2.2.2.2.2.2.2.2.2.2.2.2.2.2.2.2.2.2.1 rx.2.2.2.2.2.2.2.2.2.2.2.2.2.2.2.2.2.2.2.2.1 rx.2.2.2.2.2.2.2.2.2.2.2.2.2.2.2.2.2.2.2.2.2.1 rx.2.2.2.2.2.2.2.2.2.2.2.2.2.2.2.2.2.2.2.2.2.2.1 rx.2.2.2.2.2.2.2.2.2.2.2.2.2.2.2.2.2.2.2.2.2.2.2.1 rx.2.2.2.2.2.2.2.2.2.2.2.2.2.2.2.2.2.2.2.2.2.2.2.2.1 rx.2.2.2.2.2.2.2.2.2.2.2.2.2.2.2.2.2.2.2.2.2.2.2.2.2.1 rx.2.2.2.2.2.2.2.2.2.2.2.2.2.2.2.2.2.2.2.2.2.2.2.2.2.2.1 rx.2.2.2.2.2.2.2.2.2.2.2.2.2.2.2.2.2.2.2.2.2.2.2.2.2.2.2.1 rx.2.2.2.2.2.2.2.2.2.2.2.2.2.2.2.2.2.2.2.2.2.2.2.2.2.2.2.2.1 rx.2.2.2.2.2.2.2.2.2.2.2.2.2.2.2.2.2.2.2.2.2.2.2.2.2.2.2.2.2.1 rx.2.2.2.2.2.2.2.2.2.2.2.2.2.2.2.2.2.2.2.2.2.2.2.2.2.2.2.2.2.2.1 rx.2.2.2.2.2.2.2.2.2.2.2.2.2.2.2.2.2.2.2.2.2.2.2.2.2.2.2.2.2.2.2 rm.2.1 m_runs0 m_typed rm.2.2.1 rm.2.2.2.1 m_text := by
  obtain ⟨⟨r, t, bk⟩, hs, tx, hC, hM, hH, hHM, rfl, hT⟩ := h
  have hr : RowOk r := hC.2.1
  have e3 : x_now_row = encR r := hC.1
  have htab : TabC x_now_table t := hC.2.2.1
  rcases c4 F a1 with ⟨e1, e2⟩ | ⟨k, hk, rfl, e1, e2⟩
  · apply mkst
    · unfold f_X5_next f_X5_moveBy; rw [e1, ob_some, if_pos rfl, ob_some]
    · unfold f_X6_next; rw [e2, ob_some, if_pos rfl, ob_some]
    · exact ⟨rfl, (r, t, bk), hs, tx, hC, hM, hH, hHM, rfl, hT⟩
  obtain ⟨pre, post, now', kept', hS, em⟩ := s_place hF hM hr (fun k hk => (htab k hk).2) m_now m_kept hk
  obtain ⟨z, eo, et, ep, er⟩ := s_ways hF hk hr bk htab x_ways_stock x_ways_weight x_ways_known x_ways_found x_measured_which x_measured_x x_measured_y x_measured_row x_measured_table hS
  have hSl := SH_len (k := k) (t := t) (bk := bk) hr
  obtain ⟨y, ey, hy⟩ := s_record F hC hH
  obtain ⟨m, ec, hm⟩ := s_changes hF hHM hH.2.1 hM hC.ok hH.ok
  rw [e3] at ey
  by_cases h0 : nI pre.length + 1 < 0
  · apply mkst
    · unfold f_X5_next f_X5_moveBy
      rw [e1, ob_some, if_neg ne10, e3, eo, ob_some, ep, ob_some, ob_some, if_pos h0, ob_some]
    · unfold f_X6_next f_X6_moves
      rw [e2, ob_some, if_neg ne10, em, ob_some, if_pos h0, ob_some, ob_some]
    · exact ⟨rfl, (r, t, bk), hs, tx, e3 ▸ hC, hM, hH, hHM, rfl, hT⟩
  obtain ⟨j, hj, ej⟩ := nI_of h0
  have hmv := s_moves hF hM hr (fun k hk => (htab k hk).2) now' kept' hk m_pasts 0 m_past ec hj
  cases hw : (SH k (r, t, bk))[j]? with
  | none =>
    obtain ⟨now2, kept2, e6⟩ := hmv.2 hw
    have hlen := List.getElem?_eq_none_iff.mp hw
    apply mkst
    · unfold f_X5_next f_X5_moveBy
      rw [e1, ob_some, if_neg ne10, e3, eo, ob_some, ep, ob_some, ob_some, if_neg h0, et, ob_some, ej, if_neg (nI_nlt hlen hj), ob_some]
    · unfold f_X6_next
      rw [e2, ob_some, if_neg ne10, em, ob_some, ej, e6, ob_some, ob_some]
    · exact ⟨rfl, (r, t, bk), hs, tx, e3 ▸ hC, hM, hH, hHM, rfl, hT⟩
  | some w =>
    obtain ⟨s', now2, kept2, e6, hs'⟩ := hmv.1 w hw
    have hlen := (List.getElem?_eq_some_iff.mp hw).1
    obtain ⟨hwo, hwl⟩ := SH_ok hr hw
    apply mkst
    · unfold f_X5_next f_X5_moveBy
      rw [e1, ob_some, if_neg ne10, e3, eo, ob_some, ep, ob_some, ob_some, if_neg h0, et, ob_some, ej, if_pos (nI_lt hlen (by omega)), ey, ob_some, er j w hw, ob_some, ob_some]
    · unfold f_X6_next
      rw [e2, ob_some, if_neg ne10, em, ob_some, ej, e6, ob_some, ob_some]
    · exact ⟨rfl, (w, t, bk), push hs (r, t, bk), tx, hC.row rfl hwo, hs', hy, hm, rfl, hT⟩
theorem st_back {F : Nat} (hF : 1100000 ≤ F) {x_pastStates : Int32} {x_now_row : Int32} {x_now_table : Int32} {x_now_kept : Int32} {x_now_book : Nat → Int32} {x_text_length : Int32} {x_text_signs : Nat → Int32} {p0_row : Int32} {p0_table : Int32} {p0_kept : Int32} {p0_book : Nat → Int32} {p1_row : Int32} {p1_table : Int32} {p1_kept : Int32} {p1_book : Nat → Int32} {p2_row : Int32} {p2_table : Int32} {p2_kept : Int32} {p2_book : Nat → Int32} {p3_row : Int32} {p3_table : Int32} {p3_kept : Int32} {p3_book : Nat → Int32} {m_pasts : Int32} {m_runs0 : Int32} {m_typed : Int32} {m_s : Nat → Int32} {m_past : Nat → Int32} {m_text : Nat → Int32} (h : Rel x_pastStates x_now_row x_now_table x_now_kept x_now_book x_text_length x_text_signs p0_row p0_table p0_kept p0_book p1_row p1_table p1_kept p1_book p2_row p2_table p2_kept p2_book p3_row p3_table p3_kept p3_book m_pasts m_runs0 m_typed m_s m_past m_text) (x_ways_measure : Bool) (x_ways_values : Int32) (x_ways_row : Int32) (x_ways_rowCodes : Int32) (x_ways_table : Int32) (x_ways_length : Int32) (x_ways_full : Int32) (x_ways_pairs : Int32) (x_ways_codes : Int32) (x_ways_stock : Nat → Int32) (x_ways_weight : Nat → Int32) (x_ways_known : Nat → Int32) (x_ways_found : Nat → Int32) (x_measured_which : Int32) (x_measured_x : Int32) (x_measured_y : Int32) (x_measured_row : Int32) (x_measured_table : Int32) (m_now : Nat → Int32) (m_kept : Nat → Int32) (a1 : Int32) : ∃ rx rm, f_X5_back F x_pastStates x_now_row x_now_table x_now_kept x_now_book x_ways_measure x_ways_values x_ways_row x_ways_rowCodes x_ways_table x_ways_length x_ways_full x_ways_pairs x_ways_codes x_ways_stock x_ways_weight x_ways_known x_ways_found x_measured_which x_measured_x x_measured_y x_measured_row x_measured_table p0_row p0_table p0_kept p0_book p1_row p1_table p1_kept p1_book p2_row p2_table p2_kept p2_book p3_row p3_table p3_kept p3_book a1 = some rx ∧ f_X6_back F m_pasts m_runs0 m_s m_past m_now m_kept a1 = some rm ∧ rx.1 = rm.1 ∧ Rel rx.2.1 rx.2.2.1 x_now_table x_now_kept x_now_book x_text_length x_text_signs rx.2.2.2.2.2.2.2.2.2.2.2.2.2.2.2.2.1 rx.2.2.2.2.2.2.2.2.2.2.2.2.2.2.2.2.2.1 rx.2.2.2.2.2.2.2.2.2.2.2.2.2.2.2.2.2.2.1 rx.2.2.2.2.2.2.2.2.2.2.2.2.2.2.2.2.2.2.2.1 rx.2.2.2.2.2.2.2.2.2.2.2.2.2.2.2.2.2.2.2.2.1 rx.2.2.2.2.2.2.2.2.2.2.2.2.2.2.2.2.2.2.2.2.2.1 rx.2.2.2.2.2.2.2.2.2.2.2.2.2.2.2.2.2.2.2.2.2.2.1 rx.2.2.2.2.2.2.2.2.2.2.2.2.2.2.2.2.2.2.2.2.2.2.2.1 rx.2.2.2.2.2.2.2.2.2.2.2.2.2.2.2.2.2.2.2.2.2.2.2.2.1 rx.2.2.2.2.2.2.2.2.2.2.2.2.2.2.2.2.2.2.2.2.2.2.2.2.2.1 rx.2.2.2.2.2.2.2.2.2.2.2.2.2.2.2.2.2.2.2.2.2.2.2.2.2.2.1 rx.2.2.2.2.2.2.2.2.2.2.2.2.2.2.2.2.2.2.2.2.2.2.2.2.2.2.2.1 rx.2.2.2.2.2.2.2.2.2.2.2.2.2.2.2.2.2.2.2.2.2.2.2.2.2.2.2.2.1 rx.2.2.2.2.2.2.2.2.2.2.2.2.2.2.2.2.2.2.2.2.2.2.2.2.2.2.2.2.2.1 rx.2.2.2.2.2.2.2.2.2.2.2.2.2.2.2.2.2.2.2.2.2.2.2.2.2.2.2.2.2.2.1 rx.2.2.2.2.2.2.2.2.2.2.2.2.2.2.2.2.2.2.2.2.2.2.2.2.2.2.2.2.2.2.2 rm.2.1 m_runs0 m_typed rm.2.2.1 rm.2.2.2.1 m_text := by
  obtain ⟨⟨r, t, bk⟩, hs, tx, hC, hM, hH, hHM, rfl, hT⟩ := h
  have hr : RowOk r := hC.2.1
  have e3 : x_now_row = encR r := hC.1
  have htab : TabC x_now_table t := hC.2.2.1
  rcases c4 F a1 with ⟨e1, e2⟩ | ⟨k, hk, rfl, e1, e2⟩
  · apply mkst
    · unfold f_X5_back f_X5_moveBy; rw [e1, ob_some, if_pos rfl, ob_some]
    · unfold f_X6_back; rw [e2, ob_some, if_pos rfl, ob_some]
    · exact ⟨rfl, (r, t, bk), hs, tx, hC, hM, hH, hHM, rfl, hT⟩
  obtain ⟨pre, post, now', kept', hS, em⟩ := s_place hF hM hr (fun k hk => (htab k hk).2) m_now m_kept hk
  obtain ⟨z, eo, et, ep, er⟩ := s_ways hF hk hr bk htab x_ways_stock x_ways_weight x_ways_known x_ways_found x_measured_which x_measured_x x_measured_y x_measured_row x_measured_table hS
  have hSl := SH_len (k := k) (t := t) (bk := bk) hr
  obtain ⟨y, ey, hy⟩ := s_record F hC hH
  obtain ⟨m, ec, hm⟩ := s_changes hF hHM hH.2.1 hM hC.ok hH.ok
  rw [e3] at ey
  by_cases h0 : nI pre.length + -1 < 0
  · apply mkst
    · unfold f_X5_back f_X5_moveBy
      rw [e1, ob_some, if_neg ne10, e3, eo, ob_some, ep, ob_some, ob_some, if_pos h0, ob_some]
    · unfold f_X6_back f_X6_moves
      rw [e2, ob_some, if_neg ne10, em, ob_some, Int32.sub_eq_add_neg, if_pos h0, ob_some, ob_some]
    · exact ⟨rfl, (r, t, bk), hs, tx, e3 ▸ hC, hM, hH, hHM, rfl, hT⟩
  obtain ⟨j, hj, ej⟩ := nI_of h0
  have hmv := s_moves hF hM hr (fun k hk => (htab k hk).2) now' kept' hk m_pasts 0 m_past ec hj
  cases hw : (SH k (r, t, bk))[j]? with
  | none =>
    obtain ⟨now2, kept2, e6⟩ := hmv.2 hw
    have hlen := List.getElem?_eq_none_iff.mp hw
    apply mkst
    · unfold f_X5_back f_X5_moveBy
      rw [e1, ob_some, if_neg ne10, e3, eo, ob_some, ep, ob_some, ob_some, if_neg h0, et, ob_some, ej, if_neg (nI_nlt hlen hj), ob_some]
    · unfold f_X6_back
      rw [e2, ob_some, if_neg ne10, em, ob_some, Int32.sub_eq_add_neg, ej, e6, ob_some, ob_some]
    · exact ⟨rfl, (r, t, bk), hs, tx, e3 ▸ hC, hM, hH, hHM, rfl, hT⟩
  | some w =>
    obtain ⟨s', now2, kept2, e6, hs'⟩ := hmv.1 w hw
    have hlen := (List.getElem?_eq_some_iff.mp hw).1
    obtain ⟨hwo, hwl⟩ := SH_ok hr hw
    apply mkst
    · unfold f_X5_back f_X5_moveBy
      rw [e1, ob_some, if_neg ne10, e3, eo, ob_some, ep, ob_some, ob_some, if_neg h0, et, ob_some, ej, if_pos (nI_lt hlen (by omega)), ey, ob_some, er j w hw, ob_some, ob_some]
    · unfold f_X6_back
      rw [e2, ob_some, if_neg ne10, em, ob_some, Int32.sub_eq_add_neg, ej, e6, ob_some, ob_some]
    · exact ⟨rfl, (w, t, bk), push hs (r, t, bk), tx, hC.row rfl hwo, hs', hy, hm, rfl, hT⟩
