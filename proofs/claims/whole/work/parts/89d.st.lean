-- a text as a whole
theorem s_cp1 {F : Nat} (hF : 1100000 ≤ F) (s held : Nat → Int32) : ∃ h', f_X6_copies_m_s_m_held F s held = some h' ∧ ∀ k, k < 116 → h' k = s k := by
  have e : f_X6_copies_m_s_m_held_L2 F s F (0 : Int32) held = some (fun j => if 0 ≤ j ∧ j < 0 + 116 then s (j - 0) else held j) := by
    refine loop_fill0 (Lp := f_X6_copies_m_s_m_held_L2 F s) (N := 116) (a := 0) (h := s) held ?_ ?_ (by omega)
    · intro n g
      rw [f_X6_copies_m_s_m_held_L2, if_pos (show (116 : Int32) ≤ nI 116 from nI_le (a := 116) (b := 116) (by omega) (by decide))]
    · intro n k g hk hg
      rw [f_X6_copies_m_s_m_held_L2, if_neg (show ¬ (116 : Int32) ≤ nI k from nI_ge hk (by decide)), rd_ok _ (by omega) (by decide), ob_some, wr_ok _ _ (by omega) (by decide), ob_some, show (1 : Int32) = nI 1 from rfl, nI_add, ob_some, Nat.zero_add]
  refine ⟨_, by unfold f_X6_copies_m_s_m_held; rw [e, ob_some], fun k hk => ?_⟩
  show (if 0 ≤ k ∧ k < 0 + 116 then s (k - 0) else held k) = s k
  rw [if_pos (by omega), Nat.sub_zero]
theorem s_cp2 {F : Nat} (hF : 1100000 ≤ F) (s held : Nat → Int32) : ∃ s', f_X6_copies_m_held_m_s F s held = some s' ∧ ∀ k, k < 116 → s' k = held k := by
  have e : f_X6_copies_m_held_m_s_L2 F held F (0 : Int32) s = some (fun j => if 0 ≤ j ∧ j < 0 + 116 then held (j - 0) else s j) := by
    refine loop_fill0 (Lp := f_X6_copies_m_held_m_s_L2 F held) (N := 116) (a := 0) (h := held) s ?_ ?_ (by omega)
    · intro n g
      rw [f_X6_copies_m_held_m_s_L2, if_pos (show (116 : Int32) ≤ nI 116 from nI_le (a := 116) (b := 116) (by omega) (by decide))]
    · intro n k g hk hg
      rw [f_X6_copies_m_held_m_s_L2, if_neg (show ¬ (116 : Int32) ≤ nI k from nI_ge hk (by decide)), rd_ok _ (by omega) (by decide), ob_some, wr_ok _ _ (by omega) (by decide), ob_some, show (1 : Int32) = nI 1 from rfl, nI_add, ob_some, Nat.zero_add]
  refine ⟨_, by unfold f_X6_copies_m_held_m_s; rw [e, ob_some], fun k hk => ?_⟩
  show (if 0 ≤ k ∧ k < 0 + 116 then held (k - 0) else s k) = held k
  rw [if_pos (by omega), Nat.sub_zero]
theorem run_both {F : Nat} (hF : 1100000 ≤ F) {len : Int32} {signs : Nat → Int32} {typed : Int32} {text : Nat → Int32} {tx : List Nat} (hT : TxR len signs typed text tx) {row table kept : Int32} {book : Nat → Int32} {S : AS} (hC : StC row table kept book S) {s : Nat → Int32} (hM : StM s S) (ysb : Nat → Int32) (tw tk tn tr tre tb : Int32) (wm : Bool) (wv wr_ wc wt wl wf wp wo : Int32) (ws ww wk wd_ : Nat → Int32) (mw mx my mr mt : Int32) (ps kn pn : Int32) (past now kp : Nat → Int32) : ∃ zc zm, f_X3_run F ysb row table kept book len tw tk tn tr tre tb signs wm wv wr_ wc wt wl wf wp wo ws ww wk wd_ mw mx my mr mt = some zc ∧ f_X6_plays F ps typed kn pn s past text now kp = some zm ∧ zm.2.1 = ps ∧ zm.2.2.1 = 0 ∧ zm.2.2.2.2.2.2.2.2.2.2.1 = past ∧
    ((zc.2.2.1 = 0 ∧ zm.1 = -1000004 ∧ zc.1 = zm.2.2.2.2.2.2.1 ∧ ∃ S' : AS, StC zc.2.2.2.2.1 zc.2.2.2.2.2.1 zc.2.2.2.2.2.2.1 zc.2.2.2.2.2.2.2.1 S' ∧ StM zm.2.2.2.2.2.2.2.2.2.1 S') ∨
     (∃ pos rs : Nat, pos ≤ 60 ∧ 1 ≤ rs ∧ rs ≤ 3 ∧ zc.2.1 = nI pos ∧ zc.2.2.1 = nI rs ∧ zm.1 = nI pos ∧ zm.2.2.2.2.1 = nI rs ∧ (rs ≠ 2 → zc.2.2.2.1 = zm.2.2.2.2.2.1) ∧ (rs = 2 → zm.2.2.2.2.2.1 = -1000004))) := by
  have h60 := hT.2.2.1
  obtain ⟨z1, eb, hC1⟩ := s_become F (b2 := ysb) hC
  obtain ⟨ec, em, e1, e2, r1, r2, r3⟩ := loop_both hF hT mw mx my mr mt (z1 := z1) ps past tx.length 0 0 0 F F (by omega) (by omega) (by omega) (by omega) (by omega) S z1.1 z1.2.2.1 z1.2.2.2 s now kp kn pn 0 0 0 wd_ wk ws ww tw tk tn tr tre tb wf wp wo wm wv wr_ wc wt wl rfl hC1 hM
  have e1' : f_X3_run_L31 F len signs mw mx my mr mt z1 F (0 : Int32) wd_ wk ws ww z1.2.2.2 tw tk tn tr tre tb wf wp wo wm wv wr_ wc wt wl (0 : Int32) (0 : Int32) (0 : Int32) z1.1 z1.2.2.1 = some ec := e1
  have e2' : f_X6_plays_L27 F typed text F (0 : Int32) kp now past s (0 : Int32) (0 : Int32) (0 : Int32) kn pn ps (0 : Int32) = some em := e2
  rcases r3 with ⟨z, rfl, pos, w, q, g1, g2, g3, g4, g5, g6, g7, g8, g9⟩ | ⟨z, rfl, pos, g3, g4, g7, g8, g9⟩ | ⟨z, rfl, pos, g3, g4, g7, g8, g9⟩ | ⟨z, rfl, g8, g9, S', hSt, hC', hM'⟩
  · have e53 : (if z.2.2.2.2.2.1 = 0 then some (0 : Int32) else some (z.2.2.2.2.2.2.2.2.2.1 - z.2.2.2.2.2.2.2.2.2.2.2.2.2.2.2.2.2.2.2.2.2.1)) = some (if w = 0 then 0 else nI (q - pos)) := by
      rw [g1, g2, g3, nI_sub g5]
      by_cases h0 : w = 0
      · rw [if_pos h0, if_pos (show nI w = (0 : Int32) by rw [h0]; rfl)]
      · rw [if_neg h0, if_neg (show ¬ nI w = (0 : Int32) from nIlit (m := 0) (by omega) (by decide) h0)]
    apply mkst
    · unfold f_X3_run
      rw [eb, ob_some, e1', ob_some]
      dsimp only [Sum.elim]
      rw [e53, ob_some]
    · unfold f_X6_plays
      rw [e2', ob_some, g8, if_neg ne10, ob_some]
    · exact ⟨r1, rfl, r2, Or.inr ⟨pos, 1, g4, by decide, by decide, g3, rfl, g7, rfl, fun _ => g9.symm, fun z => absurd z (by decide)⟩⟩
  · apply mkst
    · unfold f_X3_run
      rw [eb, ob_some, e1', ob_some]
      dsimp only [Sum.elim]
    · unfold f_X6_plays
      rw [e2', ob_some, g8, if_neg (show ¬ (2 : Int32) = 0 by decide), ob_some]
    · exact ⟨r1, rfl, r2, Or.inr ⟨pos, 2, g4, by decide, by decide, g3, rfl, g7, rfl, fun z => absurd rfl z, fun _ => g9⟩⟩
  · apply mkst
    · unfold f_X3_run
      rw [eb, ob_some, e1', ob_some]
      dsimp only [Sum.elim]
    · unfold f_X6_plays
      rw [e2', ob_some, g8, if_neg (show ¬ (3 : Int32) = 0 by decide), ob_some]
    · exact ⟨r1, rfl, r2, Or.inr ⟨pos, 3, g4, by decide, by decide, g3, rfl, g7, rfl, fun _ => g9.symm, fun z => absurd z (by decide)⟩⟩
  · apply mkst
    · unfold f_X3_run
      rw [eb, ob_some, e1', ob_some]
      dsimp only [Sum.elim]
    · unfold f_X6_plays
      rw [e2', ob_some, g8, if_pos rfl, ob_some]
    · exact ⟨r1, rfl, r2, Or.inl ⟨rfl, rfl, g9.symm, S', hC', hM'⟩⟩
theorem w2 (F : Nat) (x : Int32) : (f_X5_within F x 2 = some 0 ∧ f_X6_in F x 0 2 = some 0) ∨ (∃ j : Nat, j ≤ 2 ∧ x = nI j ∧ f_X5_within F x 2 = some 1 ∧ f_X6_in F x 0 2 = some 1) := w_cases F x (m := 2) (by decide)
theorem st_fault {F : Nat} (hF : 1100000 ≤ F) {x_pastStates : Int32} {x_now_row : Int32} {x_now_table : Int32} {x_now_kept : Int32} {x_now_book : Nat → Int32} {x_text_length : Int32} {x_text_signs : Nat → Int32} {p0_row : Int32} {p0_table : Int32} {p0_kept : Int32} {p0_book : Nat → Int32} {p1_row : Int32} {p1_table : Int32} {p1_kept : Int32} {p1_book : Nat → Int32} {p2_row : Int32} {p2_table : Int32} {p2_kept : Int32} {p2_book : Nat → Int32} {p3_row : Int32} {p3_table : Int32} {p3_kept : Int32} {p3_book : Nat → Int32} {m_pasts : Int32} {m_runs0 : Int32} {m_typed : Int32} {m_s : Nat → Int32} {m_past : Nat → Int32} {m_text : Nat → Int32} (h : Rel x_pastStates x_now_row x_now_table x_now_kept x_now_book x_text_length x_text_signs p0_row p0_table p0_kept p0_book p1_row p1_table p1_kept p1_book p2_row p2_table p2_kept p2_book p3_row p3_table p3_kept p3_book m_pasts m_runs0 m_typed m_s m_past m_text) (x_text_word : Int32) (x_text_kind : Int32) (x_text_number : Int32) (x_text_row : Int32) (x_text_reached : Int32) (x_text_broken : Int32) (x_trial_orders : Int32) (x_trial_position : Int32) (x_trial_reason : Int32) (x_trial_cause : Int32) (x_trial_state_row : Int32) (x_trial_state_table : Int32) (x_trial_state_kept : Int32) (x_trial_state_book : Nat → Int32) (x_ways_measure : Bool) (x_ways_values : Int32) (x_ways_row : Int32) (x_ways_rowCodes : Int32) (x_ways_table : Int32) (x_ways_length : Int32) (x_ways_full : Int32) (x_ways_pairs : Int32) (x_ways_codes : Int32) (x_ways_stock : Nat → Int32) (x_ways_weight : Nat → Int32) (x_ways_known : Nat → Int32) (x_ways_found : Nat → Int32) (x_measured_which : Int32) (x_measured_x : Int32) (x_measured_y : Int32) (x_measured_row : Int32) (x_measured_table : Int32) (m_spot : Int32) (m_reason : Int32) (m_cause : Int32) (m_orders : Int32) (m_kindNow : Int32) (m_placeNow : Int32) (m_held : Nat → Int32) (m_now : Nat → Int32) (m_kept : Nat → Int32) (a1 : Int32) : ∃ rx rm, f_X5_fault F x_now_row x_now_table x_now_kept x_now_book x_text_length x_text_word x_text_kind x_text_number x_text_row x_text_reached x_text_broken x_text_signs x_trial_orders x_trial_position x_trial_reason x_trial_cause x_trial_state_row x_trial_state_table x_trial_state_kept x_trial_state_book x_ways_measure x_ways_values x_ways_row x_ways_rowCodes x_ways_table x_ways_length x_ways_full x_ways_pairs x_ways_codes x_ways_stock x_ways_weight x_ways_known x_ways_found x_measured_which x_measured_x x_measured_y x_measured_row x_measured_table a1 = some rx ∧ f_X6_fault F m_pasts m_runs0 m_typed m_spot m_reason m_cause m_orders m_kindNow m_placeNow m_s m_past m_held m_text m_now m_kept a1 = some rm ∧ rx.1 = rm.1 ∧ Rel x_pastStates x_now_row x_now_table x_now_kept x_now_book x_text_length x_text_signs p0_row p0_table p0_kept p0_book p1_row p1_table p1_kept p1_book p2_row p2_table p2_kept p2_book p3_row p3_table p3_kept p3_book rm.2.1 rm.2.2.1 m_typed rm.2.2.2.2.2.2.2.2.2.1 rm.2.2.2.2.2.2.2.2.2.2.1 m_text := by
  obtain ⟨S, hs, tx, hC, hM, hH, hHM, rfl, hT⟩ := h
  rcases w2 F a1 with ⟨j1, j2⟩ | ⟨v, hv, rfl, j1, j2⟩
  · apply mkst
    · unfold f_X5_fault; rw [j1, ob_some, if_pos rfl]
    · unfold f_X6_fault; rw [j2, ob_some, if_pos rfl]
    · exact ⟨rfl, S, hs, tx, hC, hM, hH, hHM, rfl, hT⟩
  obtain ⟨zc, zm, ec, em, m1, m2, m10, hcase⟩ := run_both hF hT hC hM x_trial_state_book x_text_word x_text_kind x_text_number x_text_row x_text_reached x_text_broken x_ways_measure x_ways_values x_ways_row x_ways_rowCodes x_ways_table x_ways_length x_ways_full x_ways_pairs x_ways_codes x_ways_stock x_ways_weight x_ways_known x_ways_found x_measured_which x_measured_x x_measured_y x_measured_row x_measured_table m_pasts m_kindNow m_placeNow m_past m_now m_kept
  obtain ⟨hd, ed, hhd⟩ := s_cp1 hF m_s m_held
  obtain ⟨s2, es2, hs2⟩ := s_cp2 hF zm.2.2.2.2.2.2.2.2.2.1 hd
  have hok := hC.ok
  have hM2 : StM s2 S := hM.cong hok.2.1 hok.1.1 (fun j q hj => (hok.2.2 j q hj).1) (fun k hk => (hs2 k hk).trans (hhd k hk))
  have hfin : ∀ (res : Int32), (if zm.1 = -1000004 then some zm.1 else if nI v = 0 then some zm.1 else if nI v = 1 then some zm.2.2.2.2.1 else some zm.2.2.2.2.2.1) = some res → ∃ rm, f_X6_fault F m_pasts 0 m_typed m_spot m_reason m_cause m_orders m_kindNow m_placeNow m_s m_past m_held m_text m_now m_kept (nI v) = some rm ∧ rm.1 = res ∧ rm.2.1 = m_pasts ∧ rm.2.2.1 = 0 ∧ rm.2.2.2.2.2.2.2.2.2.1 = s2 ∧ rm.2.2.2.2.2.2.2.2.2.2.1 = m_past := by
    intro res hres
    refine ⟨(res, zm.2.1, zm.2.2.1, zm.2.2.2.1, zm.2.2.2.2.1, zm.2.2.2.2.2.1, zm.2.2.2.2.2.2.1, zm.2.2.2.2.2.2.2.1, zm.2.2.2.2.2.2.2.2.1, s2, zm.2.2.2.2.2.2.2.2.2.2.1, hd, zm.2.2.2.2.2.2.2.2.2.2.2.1, zm.2.2.2.2.2.2.2.2.2.2.2.2), ?_, rfl, m1, m2, rfl, m10⟩
    unfold f_X6_fault
    rw [j2, ob_some, if_neg ne10, ed, ob_some, em, ob_some, es2, ob_some, hres, ob_some]
  have hcl : ∀ (res : Int32), (∃ rx, f_X5_fault F x_now_row x_now_table x_now_kept x_now_book x_text_length x_text_word x_text_kind x_text_number x_text_row x_text_reached x_text_broken x_text_signs x_trial_orders x_trial_position x_trial_reason x_trial_cause x_trial_state_row x_trial_state_table x_trial_state_kept x_trial_state_book x_ways_measure x_ways_values x_ways_row x_ways_rowCodes x_ways_table x_ways_length x_ways_full x_ways_pairs x_ways_codes x_ways_stock x_ways_weight x_ways_known x_ways_found x_measured_which x_measured_x x_measured_y x_measured_row x_measured_table (nI v) = some rx ∧ rx.1 = res) → (if zm.1 = -1000004 then some zm.1 else if nI v = 0 then some zm.1 else if nI v = 1 then some zm.2.2.2.2.1 else some zm.2.2.2.2.2.1) = some res → ∃ rx rm, f_X5_fault F x_now_row x_now_table x_now_kept x_now_book x_text_length x_text_word x_text_kind x_text_number x_text_row x_text_reached x_text_broken x_text_signs x_trial_orders x_trial_position x_trial_reason x_trial_cause x_trial_state_row x_trial_state_table x_trial_state_kept x_trial_state_book x_ways_measure x_ways_values x_ways_row x_ways_rowCodes x_ways_table x_ways_length x_ways_full x_ways_pairs x_ways_codes x_ways_stock x_ways_weight x_ways_known x_ways_found x_measured_which x_measured_x x_measured_y x_measured_row x_measured_table (nI v) = some rx ∧ f_X6_fault F m_pasts 0 m_typed m_spot m_reason m_cause m_orders m_kindNow m_placeNow m_s m_past m_held m_text m_now m_kept (nI v) = some rm ∧ rx.1 = rm.1 ∧ Rel x_pastStates x_now_row x_now_table x_now_kept x_now_book x_text_length x_text_signs p0_row p0_table p0_kept p0_book p1_row p1_table p1_kept p1_book p2_row p2_table p2_kept p2_book p3_row p3_table p3_kept p3_book rm.2.1 rm.2.2.1 m_typed rm.2.2.2.2.2.2.2.2.2.1 rm.2.2.2.2.2.2.2.2.2.2.1 m_text := by
    intro res hx hm
    obtain ⟨rx, q1, q2⟩ := hx
    obtain ⟨rm, p1, p2, p3, p4, p5, p6⟩ := hfin res hm
    refine ⟨rx, rm, q1, p1, q2.trans p2.symm, ?_⟩
    rw [p3, p4, p5, p6]
    exact ⟨S, hs, tx, hC, hM2, hH, hHM, rfl, hT⟩
  rcases hcase with ⟨c1, c2, -, -⟩ | ⟨pos, rs, b1, b2, b3, c1, c2, c3, c4, c5, c6⟩
  · refine hcl (-1000004) ⟨(-1000004, zc.2.2.2.2.2.2.2.2.1, zc.2.2.2.2.2.2.2.2.2.1, zc.2.2.2.2.2.2.2.2.2.2.1, zc.2.2.2.2.2.2.2.2.2.2.2.1, zc.2.2.2.2.2.2.2.2.2.2.2.2.1, zc.2.2.2.2.2.2.2.2.2.2.2.2.2.1, zc.1, zc.2.1, zc.2.2.1, zc.2.2.2.1, zc.2.2.2.2.1, zc.2.2.2.2.2.1, zc.2.2.2.2.2.2.1, zc.2.2.2.2.2.2.2.1, zc.2.2.2.2.2.2.2.2.2.2.2.2.2.2.1, zc.2.2.2.2.2.2.2.2.2.2.2.2.2.2.2.1, zc.2.2.2.2.2.2.2.2.2.2.2.2.2.2.2.2.1, zc.2.2.2.2.2.2.2.2.2.2.2.2.2.2.2.2.2.1, zc.2.2.2.2.2.2.2.2.2.2.2.2.2.2.2.2.2.2.1, zc.2.2.2.2.2.2.2.2.2.2.2.2.2.2.2.2.2.2.2.1, zc.2.2.2.2.2.2.2.2.2.2.2.2.2.2.2.2.2.2.2.2.1, zc.2.2.2.2.2.2.2.2.2.2.2.2.2.2.2.2.2.2.2.2.2.1, zc.2.2.2.2.2.2.2.2.2.2.2.2.2.2.2.2.2.2.2.2.2.2.1, zc.2.2.2.2.2.2.2.2.2.2.2.2.2.2.2.2.2.2.2.2.2.2.2.1, zc.2.2.2.2.2.2.2.2.2.2.2.2.2.2.2.2.2.2.2.2.2.2.2.2.1, zc.2.2.2.2.2.2.2.2.2.2.2.2.2.2.2.2.2.2.2.2.2.2.2.2.2.1, zc.2.2.2.2.2.2.2.2.2.2.2.2.2.2.2.2.2.2.2.2.2.2.2.2.2.2), ?_, rfl⟩ (by rw [c2, if_pos rfl])
    unfold f_X5_fault
    rw [j1, ob_some, if_neg ne10, ec, ob_some, if_pos c1]
  · have hr0 : ¬ zc.2.2.1 = 0 := by rw [c2]; exact nIlit (m := 0) (by omega) (by decide) (by omega)
    have hp4 : ¬ nI pos = (-1000004 : Int32) := fun z => nI_pos (show pos < 2 ^ 31 by omega) (by rw [z]; decide)
    rcases (show v = 0 ∨ v = 1 ∨ v = 2 by omega) with rfl | rfl | rfl
    · refine hcl (nI pos) ⟨(zc.2.1, zc.2.2.2.2.2.2.2.2.1, zc.2.2.2.2.2.2.2.2.2.1, zc.2.2.2.2.2.2.2.2.2.2.1, zc.2.2.2.2.2.2.2.2.2.2.2.1, zc.2.2.2.2.2.2.2.2.2.2.2.2.1, zc.2.2.2.2.2.2.2.2.2.2.2.2.2.1, zc.1, zc.2.1, zc.2.2.1, zc.2.2.2.1, zc.2.2.2.2.1, zc.2.2.2.2.2.1, zc.2.2.2.2.2.2.1, zc.2.2.2.2.2.2.2.1, zc.2.2.2.2.2.2.2.2.2.2.2.2.2.2.1, zc.2.2.2.2.2.2.2.2.2.2.2.2.2.2.2.1, zc.2.2.2.2.2.2.2.2.2.2.2.2.2.2.2.2.1, zc.2.2.2.2.2.2.2.2.2.2.2.2.2.2.2.2.2.1, zc.2.2.2.2.2.2.2.2.2.2.2.2.2.2.2.2.2.2.1, zc.2.2.2.2.2.2.2.2.2.2.2.2.2.2.2.2.2.2.2.1, zc.2.2.2.2.2.2.2.2.2.2.2.2.2.2.2.2.2.2.2.2.1, zc.2.2.2.2.2.2.2.2.2.2.2.2.2.2.2.2.2.2.2.2.2.1, zc.2.2.2.2.2.2.2.2.2.2.2.2.2.2.2.2.2.2.2.2.2.2.1, zc.2.2.2.2.2.2.2.2.2.2.2.2.2.2.2.2.2.2.2.2.2.2.2.1, zc.2.2.2.2.2.2.2.2.2.2.2.2.2.2.2.2.2.2.2.2.2.2.2.2.1, zc.2.2.2.2.2.2.2.2.2.2.2.2.2.2.2.2.2.2.2.2.2.2.2.2.2.1, zc.2.2.2.2.2.2.2.2.2.2.2.2.2.2.2.2.2.2.2.2.2.2.2.2.2.2), ?_, c1⟩ (by rw [c3, if_neg hp4, if_pos (show nI 0 = (0 : Int32) from rfl)])
      unfold f_X5_fault
      rw [j1, ob_some, if_neg ne10, ec, ob_some, if_neg hr0, if_neg (show ¬ nI 0 = (2 : Int32) by decide), if_pos (show nI 0 = (0 : Int32) from rfl)]
    · refine hcl (nI rs) ⟨(zc.2.2.1, zc.2.2.2.2.2.2.2.2.1, zc.2.2.2.2.2.2.2.2.2.1, zc.2.2.2.2.2.2.2.2.2.2.1, zc.2.2.2.2.2.2.2.2.2.2.2.1, zc.2.2.2.2.2.2.2.2.2.2.2.2.1, zc.2.2.2.2.2.2.2.2.2.2.2.2.2.1, zc.1, zc.2.1, zc.2.2.1, zc.2.2.2.1, zc.2.2.2.2.1, zc.2.2.2.2.2.1, zc.2.2.2.2.2.2.1, zc.2.2.2.2.2.2.2.1, zc.2.2.2.2.2.2.2.2.2.2.2.2.2.2.1, zc.2.2.2.2.2.2.2.2.2.2.2.2.2.2.2.1, zc.2.2.2.2.2.2.2.2.2.2.2.2.2.2.2.2.1, zc.2.2.2.2.2.2.2.2.2.2.2.2.2.2.2.2.2.1, zc.2.2.2.2.2.2.2.2.2.2.2.2.2.2.2.2.2.2.1, zc.2.2.2.2.2.2.2.2.2.2.2.2.2.2.2.2.2.2.2.1, zc.2.2.2.2.2.2.2.2.2.2.2.2.2.2.2.2.2.2.2.2.1, zc.2.2.2.2.2.2.2.2.2.2.2.2.2.2.2.2.2.2.2.2.2.1, zc.2.2.2.2.2.2.2.2.2.2.2.2.2.2.2.2.2.2.2.2.2.2.1, zc.2.2.2.2.2.2.2.2.2.2.2.2.2.2.2.2.2.2.2.2.2.2.2.1, zc.2.2.2.2.2.2.2.2.2.2.2.2.2.2.2.2.2.2.2.2.2.2.2.2.1, zc.2.2.2.2.2.2.2.2.2.2.2.2.2.2.2.2.2.2.2.2.2.2.2.2.2.1, zc.2.2.2.2.2.2.2.2.2.2.2.2.2.2.2.2.2.2.2.2.2.2.2.2.2.2), ?_, c2⟩ (by rw [c3, if_neg hp4, if_neg (show ¬ nI 1 = (0 : Int32) by decide), if_pos (show nI 1 = (1 : Int32) from rfl), c4])
      unfold f_X5_fault
      rw [j1, ob_some, if_neg ne10, ec, ob_some, if_neg hr0, if_neg (show ¬ nI 1 = (2 : Int32) by decide), if_neg (show ¬ nI 1 = (0 : Int32) by decide), if_pos (show nI 1 = (1 : Int32) from rfl), ob_some]
    · by_cases h2 : rs = 2
      · refine hcl (-1000004) ⟨(-1000004, zc.2.2.2.2.2.2.2.2.1, zc.2.2.2.2.2.2.2.2.2.1, zc.2.2.2.2.2.2.2.2.2.2.1, zc.2.2.2.2.2.2.2.2.2.2.2.1, zc.2.2.2.2.2.2.2.2.2.2.2.2.1, zc.2.2.2.2.2.2.2.2.2.2.2.2.2.1, zc.1, zc.2.1, zc.2.2.1, zc.2.2.2.1, zc.2.2.2.2.1, zc.2.2.2.2.2.1, zc.2.2.2.2.2.2.1, zc.2.2.2.2.2.2.2.1, zc.2.2.2.2.2.2.2.2.2.2.2.2.2.2.1, zc.2.2.2.2.2.2.2.2.2.2.2.2.2.2.2.1, zc.2.2.2.2.2.2.2.2.2.2.2.2.2.2.2.2.1, zc.2.2.2.2.2.2.2.2.2.2.2.2.2.2.2.2.2.1, zc.2.2.2.2.2.2.2.2.2.2.2.2.2.2.2.2.2.2.1, zc.2.2.2.2.2.2.2.2.2.2.2.2.2.2.2.2.2.2.2.1, zc.2.2.2.2.2.2.2.2.2.2.2.2.2.2.2.2.2.2.2.2.1, zc.2.2.2.2.2.2.2.2.2.2.2.2.2.2.2.2.2.2.2.2.2.1, zc.2.2.2.2.2.2.2.2.2.2.2.2.2.2.2.2.2.2.2.2.2.2.1, zc.2.2.2.2.2.2.2.2.2.2.2.2.2.2.2.2.2.2.2.2.2.2.2.1, zc.2.2.2.2.2.2.2.2.2.2.2.2.2.2.2.2.2.2.2.2.2.2.2.2.1, zc.2.2.2.2.2.2.2.2.2.2.2.2.2.2.2.2.2.2.2.2.2.2.2.2.2.1, zc.2.2.2.2.2.2.2.2.2.2.2.2.2.2.2.2.2.2.2.2.2.2.2.2.2.2), ?_, rfl⟩ (by rw [c3, if_neg hp4, if_neg (show ¬ nI 2 = (0 : Int32) by decide), if_neg (show ¬ nI 2 = (1 : Int32) by decide), c6 h2])
        unfold f_X5_fault
        rw [j1, ob_some, if_neg ne10, ec, ob_some, if_neg hr0, if_pos (show nI 2 = (2 : Int32) from rfl), if_pos (show zc.2.2.1 = (2 : Int32) by rw [c2, h2]; rfl)]
      · refine hcl zm.2.2.2.2.2.1 ⟨(zc.2.2.2.1, zc.2.2.2.2.2.2.2.2.1, zc.2.2.2.2.2.2.2.2.2.1, zc.2.2.2.2.2.2.2.2.2.2.1, zc.2.2.2.2.2.2.2.2.2.2.2.1, zc.2.2.2.2.2.2.2.2.2.2.2.2.1, zc.2.2.2.2.2.2.2.2.2.2.2.2.2.1, zc.1, zc.2.1, zc.2.2.1, zc.2.2.2.1, zc.2.2.2.2.1, zc.2.2.2.2.2.1, zc.2.2.2.2.2.2.1, zc.2.2.2.2.2.2.2.1, zc.2.2.2.2.2.2.2.2.2.2.2.2.2.2.1, zc.2.2.2.2.2.2.2.2.2.2.2.2.2.2.2.1, zc.2.2.2.2.2.2.2.2.2.2.2.2.2.2.2.2.1, zc.2.2.2.2.2.2.2.2.2.2.2.2.2.2.2.2.2.1, zc.2.2.2.2.2.2.2.2.2.2.2.2.2.2.2.2.2.2.1, zc.2.2.2.2.2.2.2.2.2.2.2.2.2.2.2.2.2.2.2.1, zc.2.2.2.2.2.2.2.2.2.2.2.2.2.2.2.2.2.2.2.2.1, zc.2.2.2.2.2.2.2.2.2.2.2.2.2.2.2.2.2.2.2.2.2.1, zc.2.2.2.2.2.2.2.2.2.2.2.2.2.2.2.2.2.2.2.2.2.2.1, zc.2.2.2.2.2.2.2.2.2.2.2.2.2.2.2.2.2.2.2.2.2.2.2.1, zc.2.2.2.2.2.2.2.2.2.2.2.2.2.2.2.2.2.2.2.2.2.2.2.2.1, zc.2.2.2.2.2.2.2.2.2.2.2.2.2.2.2.2.2.2.2.2.2.2.2.2.2.1, zc.2.2.2.2.2.2.2.2.2.2.2.2.2.2.2.2.2.2.2.2.2.2.2.2.2.2), ?_, c5 h2⟩ (by rw [c3, if_neg hp4, if_neg (show ¬ nI 2 = (0 : Int32) by decide), if_neg (show ¬ nI 2 = (1 : Int32) by decide)])
        unfold f_X5_fault
        rw [j1, ob_some, if_neg ne10, ec, ob_some, if_neg hr0, if_pos (show nI 2 = (2 : Int32) from rfl), if_neg (show ¬ zc.2.2.1 = (2 : Int32) by rw [c2]; exact nIlit (m := 2) (by omega) (by decide) h2), if_neg (show ¬ nI 2 = (0 : Int32) by decide), if_neg (show ¬ nI 2 = (1 : Int32) by decide), ob_some]
theorem st_play {F : Nat} (hF : 1100000 ≤ F) {x_pastStates : Int32} {x_now_row : Int32} {x_now_table : Int32} {x_now_kept : Int32} {x_now_book : Nat → Int32} {x_text_length : Int32} {x_text_signs : Nat → Int32} {p0_row : Int32} {p0_table : Int32} {p0_kept : Int32} {p0_book : Nat → Int32} {p1_row : Int32} {p1_table : Int32} {p1_kept : Int32} {p1_book : Nat → Int32} {p2_row : Int32} {p2_table : Int32} {p2_kept : Int32} {p2_book : Nat → Int32} {p3_row : Int32} {p3_table : Int32} {p3_kept : Int32} {p3_book : Nat → Int32} {m_pasts : Int32} {m_runs0 : Int32} {m_typed : Int32} {m_s : Nat → Int32} {m_past : Nat → Int32} {m_text : Nat → Int32} (h : Rel x_pastStates x_now_row x_now_table x_now_kept x_now_book x_text_length x_text_signs p0_row p0_table p0_kept p0_book p1_row p1_table p1_kept p1_book p2_row p2_table p2_kept p2_book p3_row p3_table p3_kept p3_book m_pasts m_runs0 m_typed m_s m_past m_text) (x_text_word : Int32) (x_text_kind : Int32) (x_text_number : Int32) (x_text_row : Int32) (x_text_reached : Int32) (x_text_broken : Int32) (x_trial_state_book : Nat → Int32) (x_ways_measure : Bool) (x_ways_values : Int32) (x_ways_row : Int32) (x_ways_rowCodes : Int32) (x_ways_table : Int32) (x_ways_length : Int32) (x_ways_full : Int32) (x_ways_pairs : Int32) (x_ways_codes : Int32) (x_ways_stock : Nat → Int32) (x_ways_weight : Nat → Int32) (x_ways_known : Nat → Int32) (x_ways_found : Nat → Int32) (x_measured_which : Int32) (x_measured_x : Int32) (x_measured_y : Int32) (x_measured_row : Int32) (x_measured_table : Int32) (m_kindNow : Int32) (m_placeNow : Int32) (m_held : Nat → Int32) (m_now : Nat → Int32) (m_kept : Nat → Int32) : ∃ rx rm, f_X5_play F x_pastStates x_now_row x_now_table x_now_kept x_now_book x_text_length x_text_word x_text_kind x_text_number x_text_row x_text_reached x_text_broken x_text_signs x_trial_state_book x_ways_measure x_ways_values x_ways_row x_ways_rowCodes x_ways_table x_ways_length x_ways_full x_ways_pairs x_ways_codes x_ways_stock x_ways_weight x_ways_known x_ways_found x_measured_which x_measured_x x_measured_y x_measured_row x_measured_table p0_row p0_table p0_kept p0_book p1_row p1_table p1_kept p1_book p2_row p2_table p2_kept p2_book p3_row p3_table p3_kept p3_book = some rx ∧ f_X6_play F m_pasts m_typed m_kindNow m_placeNow m_s m_past m_held m_text m_now m_kept = some rm ∧ rx.1 = rm.1 ∧ Rel rx.2.1 rx.2.2.1 rx.2.2.2.1 rx.2.2.2.2.1 rx.2.2.2.2.2.1 x_text_length x_text_signs rx.2.2.2.2.2.2.2.2.2.2.2.2.2.2.2.2.2.2.2.2.2.2.2.2.2.2.2.2.2.2.2.2.2.1 rx.2.2.2.2.2.2.2.2.2.2.2.2.2.2.2.2.2.2.2.2.2.2.2.2.2.2.2.2.2.2.2.2.2.2.1 rx.2.2.2.2.2.2.2.2.2.2.2.2.2.2.2.2.2.2.2.2.2.2.2.2.2.2.2.2.2.2.2.2.2.2.2.1 rx.2.2.2.2.2.2.2.2.2.2.2.2.2.2.2.2.2.2.2.2.2.2.2.2.2.2.2.2.2.2.2.2.2.2.2.2.1 rx.2.2.2.2.2.2.2.2.2.2.2.2.2.2.2.2.2.2.2.2.2.2.2.2.2.2.2.2.2.2.2.2.2.2.2.2.2.1 rx.2.2.2.2.2.2.2.2.2.2.2.2.2.2.2.2.2.2.2.2.2.2.2.2.2.2.2.2.2.2.2.2.2.2.2.2.2.2.1 rx.2.2.2.2.2.2.2.2.2.2.2.2.2.2.2.2.2.2.2.2.2.2.2.2.2.2.2.2.2.2.2.2.2.2.2.2.2.2.2.1 rx.2.2.2.2.2.2.2.2.2.2.2.2.2.2.2.2.2.2.2.2.2.2.2.2.2.2.2.2.2.2.2.2.2.2.2.2.2.2.2.2.1 rx.2.2.2.2.2.2.2.2.2.2.2.2.2.2.2.2.2.2.2.2.2.2.2.2.2.2.2.2.2.2.2.2.2.2.2.2.2.2.2.2.2.1 rx.2.2.2.2.2.2.2.2.2.2.2.2.2.2.2.2.2.2.2.2.2.2.2.2.2.2.2.2.2.2.2.2.2.2.2.2.2.2.2.2.2.2.1 rx.2.2.2.2.2.2.2.2.2.2.2.2.2.2.2.2.2.2.2.2.2.2.2.2.2.2.2.2.2.2.2.2.2.2.2.2.2.2.2.2.2.2.2.1 rx.2.2.2.2.2.2.2.2.2.2.2.2.2.2.2.2.2.2.2.2.2.2.2.2.2.2.2.2.2.2.2.2.2.2.2.2.2.2.2.2.2.2.2.2.1 rx.2.2.2.2.2.2.2.2.2.2.2.2.2.2.2.2.2.2.2.2.2.2.2.2.2.2.2.2.2.2.2.2.2.2.2.2.2.2.2.2.2.2.2.2.2.1 rx.2.2.2.2.2.2.2.2.2.2.2.2.2.2.2.2.2.2.2.2.2.2.2.2.2.2.2.2.2.2.2.2.2.2.2.2.2.2.2.2.2.2.2.2.2.2.1 rx.2.2.2.2.2.2.2.2.2.2.2.2.2.2.2.2.2.2.2.2.2.2.2.2.2.2.2.2.2.2.2.2.2.2.2.2.2.2.2.2.2.2.2.2.2.2.2.1 rx.2.2.2.2.2.2.2.2.2.2.2.2.2.2.2.2.2.2.2.2.2.2.2.2.2.2.2.2.2.2.2.2.2.2.2.2.2.2.2.2.2.2.2.2.2.2.2.2 rm.2.1 rm.2.2.1 m_typed rm.2.2.2.2.2.2.2.2.2.1 rm.2.2.2.2.2.2.2.2.2.2.1 m_text := by
  obtain ⟨S, hs, tx, hC, hM, hH, hHM, rfl, hT⟩ := h
  obtain ⟨zc, zm, ec, em, m1, m2, m10, hcase⟩ := run_both hF hT hC hM x_trial_state_book x_text_word x_text_kind x_text_number x_text_row x_text_reached x_text_broken x_ways_measure x_ways_values x_ways_row x_ways_rowCodes x_ways_table x_ways_length x_ways_full x_ways_pairs x_ways_codes x_ways_stock x_ways_weight x_ways_known x_ways_found x_measured_which x_measured_x x_measured_y x_measured_row x_measured_table m_pasts m_kindNow m_placeNow m_past m_now m_kept
  obtain ⟨hd, ed, hhd⟩ := s_cp1 hF m_s m_held
  obtain ⟨s2, es2, hs2⟩ := s_cp2 hF zm.2.2.2.2.2.2.2.2.2.1 hd
  have hok := hC.ok
  have hM2 : StM s2 S := hM.cong hok.2.1 hok.1.1 (fun j q hj => (hok.2.2 j q hj).1) (fun k hk => (hs2 k hk).trans (hhd k hk))
  rcases hcase with ⟨c1, c2, -, -⟩ | ⟨pos, rs, b1, b2, b3, c1, c2, c3, c4, c5, c6⟩
  · obtain ⟨y, ey, hy⟩ := s_record F hC hH
    obtain ⟨ch, ech, hch⟩ := s_changes hF hHM hH.2.1 hM2 hC.ok hH.ok
    obtain ⟨zc2, zm2, ec2, em2, n1, n2, n10, hcase2⟩ := run_both hF hT hC hM2 x_trial_state_book x_text_word x_text_kind x_text_number x_text_row x_text_reached x_text_broken x_ways_measure x_ways_values x_ways_row x_ways_rowCodes x_ways_table x_ways_length x_ways_full x_ways_pairs x_ways_codes x_ways_stock x_ways_weight x_ways_known x_ways_found x_measured_which x_measured_x x_measured_y x_measured_row x_measured_table ch.1 zm.2.2.2.2.2.2.2.1 zm.2.2.2.2.2.2.2.2.1 ch.2 zm.2.2.2.2.2.2.2.2.2.2.2.1 zm.2.2.2.2.2.2.2.2.2.2.2.2
    have ezc : zc2 = zc := Option.some.inj (ec2.symm.trans ec)
    subst ezc
    rcases hcase2 with ⟨d1, d2, d3, S', hC', hM'⟩ | ⟨pos, rs, b1, b2, b3, f1, f2, -⟩
    · obtain ⟨x, ex, hx⟩ := s_become F (b2 := x_now_book) hC'
      apply mkst
      · unfold f_X5_play
        rw [ec2, ob_some, if_pos d1, ey, ob_some, ex, ob_some]
      · unfold f_X6_play
        rw [ed, ob_some, em, ob_some, es2, ob_some, if_pos c2, m1, m2, m10, ech, ob_some, em2, ob_some, if_pos d2, ob_some]
      · refine ⟨d3, S', push hs S, tx, hx, hM', hy, ?_, n2, hT⟩
        show HiM zm2.2.1 zm2.2.2.2.2.2.2.2.2.2.2.1 (push hs S)
        rw [n1, n10]
        exact hch
    · have hr0 : ¬ zc2.2.2.1 = 0 := by rw [f2]; exact nIlit (m := 0) (by omega) (by decide) (by omega)
      exact absurd c1 hr0
  · have hr0 : ¬ zc.2.2.1 = 0 := by rw [c2]; exact nIlit (m := 0) (by omega) (by decide) (by omega)
    have hp4 : ¬ zm.1 = (-1000004 : Int32) := by rw [c3]; exact fun z => nI_pos (show pos < 2 ^ 31 by omega) (by rw [z]; decide)
    apply mkst
    · unfold f_X5_play
      rw [ec, ob_some, if_neg hr0]
    · unfold f_X6_play
      rw [ed, ob_some, em, ob_some, es2, ob_some, if_neg hp4]
    · refine ⟨rfl, S, hs, tx, hC, hM2, hH, ?_, m2, hT⟩
      show HiM zm.2.1 zm.2.2.2.2.2.2.2.2.2.2.1 hs
      rw [m1, m10]
      exact hHM
