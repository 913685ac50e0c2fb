def KW (k : Nat) (r : List Nat) (t : Nat → Nat) : WC := (r, t, k == 1 || k == 2, k == 3)
theorem KW_keeps (F : Nat) {k : Nat} (hk : k < 4) (r : List Nat) (t : Nat → Nat) : f_X5_keepsPairs F (nI k) = some (nI (bN (KW k r t).P)) ∧ f_X5_keepsCodes F (nI k) = some (nI (bN (KW k r t).C)) := by
  rcases (show k = 0 ∨ k = 1 ∨ k = 2 ∨ k = 3 by omega) with rfl | rfl | rfl | rfl <;> exact ⟨rfl, rfl⟩
theorem ckz_b (b : Bool) : ckz (nI (bN b)) = some () := by cases b <;> rfl
theorem KW_ok {k : Nat} (hk : k < 4) {r w : List Nat} {t : Nat → Nat} (hr : RowOk r) (hl : w.length = r.length) (hw : ∀ x ∈ w, x < 4) : (KW k r t).okW (KW k r t).c 0 0 w = (decide (SL r w) && (okN k r t w == 1)) := by
  have h := okW_arr (KW k r t) hr hl hw
  have e : (SL r w ∧ ((KW k r t).P = true → SP r w ∧ gl r 0 = gl w 0) ∧ ((KW k r t).C = true → SC t r w)) ↔ (SL r w ∧ okN k r t w = 1) := by
    refine and_congr_right (fun hL => ?_)
    rcases (show k = 0 ∨ k = 1 ∨ k = 2 ∨ k = 3 by omega) with rfl | rfl | rfl | rfl
    · exact ⟨fun _ => rfl, fun _ => ⟨fun z => absurd z (show ¬ false = true by decide), fun z => absurd z (show ¬ false = true by decide)⟩⟩
    · show (((KW 1 r t).P = true → SP r w ∧ gl r 0 = gl w 0) ∧ _) ↔ (if SP r w then 1 else 0) = 1
      constructor
      · intro z; rw [if_pos (z.1 rfl).1]
      · intro z
        by_cases c : SP r w
        · exact ⟨fun _ => ⟨c, SL_first hr.2 hw hl c hL⟩, fun z => absurd z (show ¬ false = true by decide)⟩
        · rw [if_neg c] at z; cases z
    · show (((KW 2 r t).P = true → SP r w ∧ gl r 0 = gl w 0) ∧ _) ↔ (if SP r w ∧ gl r 0 = gl w 0 then 1 else 0) = 1
      constructor
      · intro z; rw [if_pos (z.1 rfl)]
      · intro z
        by_cases c : SP r w ∧ gl r 0 = gl w 0
        · exact ⟨fun _ => c, fun z => absurd z (show ¬ false = true by decide)⟩
        · rw [if_neg c] at z; cases z
    · show (_ ∧ ((KW 3 r t).C = true → SC t r w)) ↔ (if SC t r w then 1 else 0) = 1
      constructor
      · intro z; rw [if_pos (z.2 rfl)]
      · intro z
        by_cases c : SC t r w
        · exact ⟨fun z => absurd z (show ¬ false = true by decide), fun _ => c⟩
        · rw [if_neg c] at z; cases z
  rw [Bool.eq_iff_iff, h.trans e, Bool.and_eq_true, decide_eq_true_iff, beq_iff_eq]
theorem KW_cs {k : Nat} (hk : k < 4) {r : List Nat} {t : Nat → Nat} (hr : RowOk r) (bk : List (List Nat)) : (KW k r t).cs r.length (KW k r t).c 0 = SH k (r, t, bk) := by
  rw [cs_eq (KW k r t) r.length _ 0 0 (Nat.zero_add _)]
  show _ = List.filter _ (List.filter _ (allW r.length))
  rw [List.filter_filter]
  refine List.filter_congr (fun w hw => ?_)
  obtain ⟨h1, h2⟩ := (mem_allW _ w).mp hw
  rw [KW_ok hk hr h1 h2, Bool.and_comm]
theorem part_len (f : List Nat → Nat) (V : Nat) : ∀ l : List (List Nat), (∀ w ∈ l, f w < V) → sumF (fun g => (l.filter (fun w => f w == g)).length) 0 V = l.length
  | [], _ => sumF_zero V 0
  | w :: l, h => by
    have ih := part_len f V l (fun v hv => h v (List.mem_cons_of_mem _ hv))
    have hw := h w List.mem_cons_self
    rw [sumF_cong (g := fun g => (if f w = g then 1 else 0) + (l.filter (fun w => f w == g)).length) V 0 (fun g _ _ => by
      by_cases e : f w = g
      · rw [if_pos e, List.filter_cons_of_pos (by rw [e, beq_self_eq_true]), List.length_cons, Nat.add_comm]
      · rw [if_neg e, List.filter_cons_of_neg (by rw [beq_eq_false_iff_ne.mpr e]; decide), Nat.zero_add]), sumF_add, ih, sumF_ind, if_pos (by omega), List.length_cons, Nat.add_comm]
theorem s_allOf {F : Nat} (hF : 1100000 ≤ F) {fd : Nat → Int32} {e V : Nat} {c : Nat → Nat} (he : e ≤ 576) (hV : V ≤ 11) (h : ∀ g, g < V → fd (e * 11 + g) = nI (c g)) : f_X4_allOf F (nI V) fd (nI e) = some (nI (sumF c 0 V)) := by
  have key := loop_sum (Lp := f_X4_allOf_L4 F (nI V) fd (nI e)) (N := V) 0 (f := c) ?_ ?_ V F 0 0 (Nat.le_refl _) rfl (by omega) (by omega)
  · unfold f_X4_allOf
    rw [show (0 : Int32) = nI 0 from rfl, key, ob_some, Nat.zero_add]
  · intro n a k h1 h2
    rw [f_X4_allOf_L4, if_pos (nI_le h1 (by omega))]
  · intro n a k _ hk
    rw [f_X4_allOf_L4, if_neg (nI_ge hk (by omega)), s_number F fd he (by omega), ob_some, h k hk, nI_add, ob_some, show (1 : Int32) = nI 1 from rfl, nI_add, ob_some]
def g00 : Nat → Nat → Nat → Nat := fun _ _ _ => 0
theorem gs00 : ∀ (w : List Nat) (p a : Nat), gs g00 p a w = 0
  | [], _, _ => rfl
  | x :: w, p, a => by show 0 + gs g00 (p + 1) x w = 0; rw [gs00 w]
theorem cn00 (K : WC) (m : Nat) (u : Nat → Nat) (last : Nat) : sumF (K.cn g00 m u last) 0 1 = (K.cs m u last).length := by
  have h := part_len (fun w => gs g00 (K.r.length - m) last w) 1 (K.cs m u last) (fun w _ => by rw [gs00]; decide)
  exact h
theorem s_table {F : Nat} (hF : 1100000 ≤ F) {K : WC} (hr : RowOk K.r) (ht : ∀ k, k < 16 → K.t k < 4) {tb : Int32} (hT : TabC tb K.t) {stock weight known : Nat → Int32} (hL : WLf K stock weight) (h0 : ∀ i, i < 577 → known i = 0) (found : Nat → Int32) {mm : Bool} {mw mx my mr mt : Int32} {gg : Nat → Nat → Nat → Nat} {V : Nat} (hV0 : 1 ≤ V) (hV : V ≤ 11) (hG : ∀ p a b, p < K.r.length → a < 4 → b < 4 → f_X4_gain F mm mw mx my mr mt (nI p) (nI a) (nI b) = some (nI (gg p a b)) ∧ gg p a b ≤ 1) : ∃ kn fd, f_X4_solve F 12 mm (nI V) (encR K.r) (encR (K.cds (K.r.length / 2))) tb (nI K.r.length) (nI (bN K.P)) (nI (bN K.C)) stock weight known found mw mx my mr mt (nI (lf K.c K.c 16)) (0 : Int32) (0 : Int32) = some (kn, fd) ∧ Inv4 K gg V 0 kn fd ∧ kn 576 ≠ 0 ∧ Cl4 K 0 kn := by
  have hl := hr.1
  obtain ⟨kn, fd, e, i, k, -, -, cl⟩ := s_solve hF hr ht hT hL hV0 hV hG K.r.length 12 K.c 0 0 known found (Nat.zero_add _) (by omega) (RS.init K) (fun u last place hS _ hk => absurd (h0 _ (by have := (hS.E_lt hr).1; omega)) hk) (fun u last place hS _ hk => absurd (h0 _ (by have := (hS.E_lt hr).1; omega)) hk)
  exact ⟨kn, fd, e, i, k, cl⟩
theorem s_open {F : Nat} (hF : 1100000 ≤ F) {k : Nat} (hk : k < 4) {r : List Nat} {t : Nat → Nat} (hr : RowOk r) {tb : Int32} (hT : TabC tb t) (stock weight known found : Nat → Int32) (mw mx my mr mt : Int32) : ∃ st w' kn fd, f_X4_open F stock weight known found mw mx my mr mt (encR r) tb (nI k) = some (true, nI 1, encR r, encR ((KW k r t).cds (r.length / 2)), tb, nI r.length, nI (lf (KW k r t).c (KW k r t).c 16), nI (bN (KW k r t).P), nI (bN (KW k r t).C), st, w', kn, fd) ∧ WLf (KW k r t) st w' ∧ Inv4 (KW k r t) g00 1 0 kn fd ∧ kn 576 ≠ 0 ∧ Cl4 (KW k r t) 0 kn := by
  obtain ⟨e1, e2⟩ := KW_keeps F hk r t
  have ht : ∀ k, k < 16 → t k < 4 := fun k hk => (hT k hk).2
  obtain ⟨st, w', kn0, ep, hL, h0⟩ := s_prepare hF (K := KW k r t) hr ht hT true stock weight known
  obtain ⟨kn, fd, es, i, kk, cl⟩ := s_table hF (K := KW k r t) hr ht hT hL h0 found (mm := true) (mw := mw) (mx := mx) (my := my) (mr := mr) (mt := mt) (gg := g00) (V := 1) (by decide) (by decide) (fun p a b _ _ _ => ⟨rfl, Nat.zero_le _⟩)
  refine ⟨st, w', kn, fd, ?_, hL, i, kk, cl⟩
  have ep' : f_X4_prepare F true (nI (bN (KW k r t).P)) stock weight known (encR r) tb = some (nI 1, encR r, encR ((KW k r t).cds (r.length / 2)), tb, nI r.length, nI (lf (KW k r t).c (KW k r t).c 16), st, w', kn0) := ep
  have es' : f_X4_solve F 12 true (nI 1) (encR r) (encR ((KW k r t).cds (r.length / 2))) tb (nI r.length) (nI (bN (KW k r t).P)) (nI (bN (KW k r t).C)) st w' kn0 found mw mx my mr mt (nI (lf (KW k r t).c (KW k r t).c 16)) (0 : Int32) (0 : Int32) = some (kn, fd) := es
  unfold f_X4_open
  rw [e1, ob_some, ckz_b, ob_some, e2, ob_some, ckz_b, ob_some, ep', ob_some, es', ob_some]
theorem s_total {F : Nat} (hF : 1100000 ≤ F) {K : WC} {kn fd : Nat → Int32} (i : Inv4 K g00 1 0 kn fd) (k : kn 576 ≠ 0) : f_X4_total F (nI 1) fd = some (nI (K.cs K.r.length K.c 0).length) := by
  have h := i K.c 0 0 (RS.init K) (Nat.le_refl _) k
  unfold f_X4_total
  rw [show (576 : Int32) = nI 576 from rfl, s_allOf hF (e := 576) (V := 1) (c := K.cn g00 K.r.length K.c 0) (by decide) (by decide) h, ob_some, cn00]
theorem st_shuffles {F : Nat} (hF : 1100000 ≤ F) {x_pastStates : Int32} {x_now_row : Int32} {x_now_table : Int32} {x_now_kept : Int32} {x_now_book : Nat → Int32} {x_text_length : Int32} {x_text_signs : Nat → Int32} {p0_row : Int32} {p0_table : Int32} {p0_kept : Int32} {p0_book : Nat → Int32} {p1_row : Int32} {p1_table : Int32} {p1_kept : Int32} {p1_book : Nat → Int32} {p2_row : Int32} {p2_table : Int32} {p2_kept : Int32} {p2_book : Nat → Int32} {p3_row : Int32} {p3_table : Int32} {p3_kept : Int32} {p3_book : Nat → Int32} {m_pasts : Int32} {m_runs0 : Int32} {m_typed : Int32} {m_s : Nat → Int32} {m_past : Nat → Int32} {m_text : Nat → Int32} (h : Rel x_pastStates x_now_row x_now_table x_now_kept x_now_book x_text_length x_text_signs p0_row p0_table p0_kept p0_book p1_row p1_table p1_kept p1_book p2_row p2_table p2_kept p2_book p3_row p3_table p3_kept p3_book m_pasts m_runs0 m_typed m_s m_past m_text) (x_ways_measure : Bool) (x_ways_values : Int32) (x_ways_row : Int32) (x_ways_rowCodes : Int32) (x_ways_table : Int32) (x_ways_length : Int32) (x_ways_full : Int32) (x_ways_pairs : Int32) (x_ways_codes : Int32) (x_ways_stock : Nat → Int32) (x_ways_weight : Nat → Int32) (x_ways_known : Nat → Int32) (x_ways_found : Nat → Int32) (x_measured_which : Int32) (x_measured_x : Int32) (x_measured_y : Int32) (x_measured_row : Int32) (x_measured_table : Int32) (m_now : Nat → Int32) (m_kept : Nat → Int32) (a1 : Int32) : ∃ rx rm, f_X5_shuffles F x_now_row x_now_table x_ways_measure x_ways_values x_ways_row x_ways_rowCodes x_ways_table x_ways_length x_ways_full x_ways_pairs x_ways_codes x_ways_stock x_ways_weight x_ways_known x_ways_found x_measured_which x_measured_x x_measured_y x_measured_row x_measured_table a1 = some rx ∧ f_X6_shuffles F m_s m_now m_kept a1 = some rm ∧ rx.1 = rm.1 ∧ Rel x_pastStates x_now_row x_now_table x_now_kept x_now_book x_text_length x_text_signs p0_row p0_table p0_kept p0_book p1_row p1_table p1_kept p1_book p2_row p2_table p2_kept p2_book p3_row p3_table p3_kept p3_book m_pasts m_runs0 m_typed m_s m_past m_text := by
  obtain ⟨⟨r, t, bk⟩, hs, tx, hC, hM, hH, hHM, rfl, hT⟩ := h
  have hr : RowOk r := hC.2.1
  have e3 : x_now_row = encR r := hC.1
  have htab : TabC x_now_table t := hC.2.2.1
  have hR : Rel x_pastStates x_now_row x_now_table x_now_kept x_now_book x_text_length x_text_signs p0_row p0_table p0_kept p0_book p1_row p1_table p1_kept p1_book p2_row p2_table p2_kept p2_book p3_row p3_table p3_kept p3_book m_pasts 0 m_typed m_s m_past m_text := ⟨(r, t, bk), hs, tx, hC, hM, hH, hHM, rfl, hT⟩
  rcases c4 F a1 with ⟨e1, e2⟩ | ⟨k, hk, rfl, e1, e2⟩
  · apply mkst
    · unfold f_X5_shuffles; rw [e1, ob_some, if_pos rfl]
    · unfold f_X6_shuffles; rw [e2, ob_some, if_pos rfl]
    · exact ⟨rfl, hR⟩
  obtain ⟨st, w', kn, fd, eo, -, i, kk, -⟩ := s_open hF hk hr htab x_ways_stock x_ways_weight x_ways_known x_ways_found x_measured_which x_measured_x x_measured_y x_measured_row x_measured_table
  have et := s_total hF i kk
  obtain ⟨now', kept', em⟩ := s_shuffles hF hM hr (fun k hk => (htab k hk).2) m_now m_kept hk e2
  have hcs : ((KW k r t).cs (KW k r t).r.length (KW k r t).c 0) = SH k (r, t, bk) := KW_cs hk hr bk
  rw [hcs] at et
  apply mkst
  · unfold f_X5_shuffles
    rw [e1, ob_some, if_neg ne10, e3, eo, ob_some, et, ob_some]
  · exact em
  · exact ⟨rfl, hR⟩
