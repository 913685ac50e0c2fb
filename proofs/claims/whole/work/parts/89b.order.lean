-- an order is done alike
theorem s_lays {F : Nat} (hF : 1100000 ≤ F) {len : Int32} {signs : Nat → Int32} {typed : Int32} {text : Nat → Int32} {tx : List Nat} (hT : TxR len signs typed text tx) {s : Nat → Int32} {r rw : List Nat} {t : Nat → Nat} {bk : List (List Nat)} (h : StM s (r, t, bk)) (hrw : RowOk rw) {a : Nat} (ha : a + rw.length ≤ tx.length) (hl : ∀ i, i < rw.length → gl tx (a + i) = 97 + gl rw i) : ∃ s', f_X6_lays F s text (nI a) (nI (a + rw.length)) = some s' ∧ StM s' (rw, t, bk) := by
  have h60 := hT.2.2.1
  have hx := hT.2.2.2
  have h10 := hrw.1
  have key : ∀ (d n k : Nat) (g : Nat → Int32), k + d = rw.length → d < n → (∀ i, i < k → g (1 + i) = nI (gl rw i)) → (∀ j, j = 0 ∨ 11 ≤ j → g j = upd s 0 (nI rw.length) j) → ∃ g', f_X6_lays_L11 F text (nI a) (nI (a + rw.length)) n (nI (a + k)) g = some g' ∧ (∀ i, i < rw.length → g' (1 + i) = nI (gl rw i)) ∧ (∀ j, j = 0 ∨ 11 ≤ j → g' j = upd s 0 (nI rw.length) j) := by
    intro d
    induction d with
    | zero =>
      intro n k g hk hn h1 h2
      obtain ⟨n, rfl⟩ : ∃ k, n = k + 1 := ⟨n - 1, by omega⟩
      exact ⟨g, by rw [f_X6_lays_L11, if_pos (nI_le (by omega) (by omega))], fun i hi => h1 i (by omega), h2⟩
    | succ d ih =>
      intro n k g hk hn h1 h2
      obtain ⟨n, rfl⟩ : ∃ k, n = k + 1 := ⟨n - 1, by omega⟩
      obtain ⟨g', e, p⟩ := ih n (k + 1) (upd g (1 + k) (nI (gl rw k))) (by omega) (by omega) (fun i hi => by
        by_cases e : i = k
        · rw [e, upd_s]
        · rw [upd_n _ _ (by omega)]; exact h1 i (by omega)) (fun j hj => by rw [upd_n _ _ (by omega)]; exact h2 j hj)
      refine ⟨g', ?_, p⟩
      rw [f_X6_lays_L11, if_neg (nI_ge (by omega) (by omega)), rd_ok _ (by omega) (by decide), ob_some, (hx (a + k) (by omega)).2.1, hl k (by omega), show (97 : Int32) = nI 97 from rfl, nI_sub (Nat.le_add_right _ _), Nat.add_sub_cancel_left, show (1 : Int32) = nI 1 from rfl, nI_add, nI_sub (by omega), show 1 + (a + k) - a = 1 + k by omega, wr_ok _ _ (by omega) (by decide), ob_some, nI_add, ob_some]
      exact e
  obtain ⟨g', e, p1, p2⟩ := key rw.length F 0 (upd s 0 (nI rw.length)) (by omega) (by omega) (fun i hi => absurd hi (by omega)) (fun _ _ => rfl)
  have e' : f_X6_lays_L11 F text (nI a) (nI (a + rw.length)) F (nI a) (upd s 0 (nI rw.length)) = some g' := e
  refine ⟨g', ?_, h.row ((p2 0 (Or.inl rfl)).trans (upd_s _ _ _)) p1 (fun k hk => (p2 k (Or.inr hk)).trans (upd_n _ _ (by omega)))⟩
  unfold f_X6_lays
  rw [nI_sub (Nat.le_add_right _ _), Nat.add_sub_cancel_left, wr0 _ _ (by decide) (by decide), ob_some, e', ob_some]
theorem is4_ok (F : Nat) {k : Nat} (h : k < 4) : f_X6_is4 F (nI k) = some 1 := by
  rcases (show k = 0 ∨ k = 1 ∨ k = 2 ∨ k = 3 by omega) with rfl | rfl | rfl | rfl <;> rfl
theorem nI_np {n : Nat} (h : n < 2 ^ 31) : ¬ nI n = (-1000002 : Int32) := fun z => nI_pos h (by rw [z]; decide)
def OrdR (ps : Int32) (past : Nat → Int32) (table : Int32) (t : Nat → Nat) (c row kept : Int32) (book : Nat → Int32) (d ps2 : Int32) (s2 past2 : Nat → Int32) : Prop := c = d ∧ ps2 = ps ∧ past2 = past ∧ ((c = 0 ∧ ∃ S' : AS, S'.2.1 = t ∧ StC row table kept book S' ∧ StM s2 S') ∨ ∃ k, 1 ≤ k ∧ k ≤ 3 ∧ c = nI k)
theorem order_both {F : Nat} (hF : 1100000 ≤ F) {len : Int32} {signs : Nat → Int32} {typed : Int32} {text : Nat → Int32} {tx : List Nat} (hT : TxR len signs typed text tx) {p q w kd nu : Nat} {rw : List Nat} (hw0 : w ≠ 0) (hw5 : w ≤ 5) (hk : kd < 4) (hnu : nu < 1000000) (hq : q ≤ tx.length) (hrow : w = 1 → RowOk rw ∧ p + 4 + rw.length + 1 = q ∧ ∀ i, i < rw.length → gl tx (p + 4 + i) = 97 + gl rw i) {row table kept : Int32} {book : Nat → Int32} {r : List Nat} {t : Nat → Nat} {bk : List (List Nat)} (hC : StC row table kept book (r, t, bk)) {s : Nat → Int32} (hM : StM s (r, t, bk)) (ps : Int32) (past now kp : Nat → Int32) {kR nR : Int32} (hkR : w = 3 ∨ w = 4 → kR = nI kd) (hnR : w = 4 → nR = nI nu) (wm : Bool) (wv wr_ wc wt wl wf wp wo : Int32) (ws ww wk wd_ : Nat → Int32) (mw mx my mr mt : Int32) :
    ∃ zc zm, f_X3_carryOut F row table kept book (nI w) (nI kd) (nI nu) (encR rw) wm wv wr_ wc wt wl wf wp wo ws ww wk wd_ mw mx my mr mt = some zc ∧ f_X6_does F ps 1 (nI q) kR nR s past text now kp (nI (w - 1)) (nI p) = some zm ∧ OrdR ps past table t zc.1 zc.2.1 zc.2.2.1 zc.2.2.2.1 zm.1 zm.2.1 zm.2.2.1 zm.2.2.2.1 := by
  have hr : RowOk r := hC.2.1
  have h10 : r.length ≤ 10 := hr.1
  have e3 : row = encR r := hC.1
  have e4 : s 0 = nI r.length := hM.1
  have htab : TabC table t := hC.2.2.1
  have ht : ∀ k, k < 16 → t k < 4 := fun k hk => (htab k hk).2
  have et : (if s 0 = 0 then some (1 : Int32) else some 0) = some (if r = [] then 1 else 0) := by
    by_cases h0 : r = []
    · rw [if_pos h0, if_pos (by rw [e4, h0]; rfl)]
    · rw [if_neg h0, if_neg (by rw [e4]; exact nIlit (m := 0) (by omega) (by decide) (fun e => h0 (List.length_eq_zero_iff.mp e)))]
  have h60 := hT.2.2.1
  rcases (show w = 1 ∨ w = 2 ∨ w = 3 ∨ w = 4 ∨ w = 5 by omega) with rfl | rfl | rfl | rfl | rfl
  · obtain ⟨hrw, eq1, hl⟩ := hrow rfl
    obtain ⟨s', es, hs'⟩ := s_lays hF hT hM hrw (a := p + 4) (by omega) hl
    apply mkst
    · unfold f_X3_carryOut
      rw [if_pos (show nI 1 = (1 : Int32) from rfl)]
    · unfold f_X6_does
      rw [rd0 _ (by decide) (by decide), ob_some, et, ob_some, if_pos (show nI (1 - 1) = (0 : Int32) from rfl), show nI p + 4 = nI (p + 4) from nI_add p 4, show (1 : Int32) = nI 1 from rfl, nI_sub (by omega), show q - 1 = p + 4 + rw.length by omega, es, ob_some]
    · exact ⟨rfl, rfl, rfl, Or.inl ⟨rfl, (rw, t, bk), rfl, hC.row rfl hrw, hs'⟩⟩
  · by_cases h0 : r = []
    · have eT := s_turned hF hr
      apply mkst
      · unfold f_X3_carryOut
        rw [if_neg (show ¬ nI 2 = (1 : Int32) by decide), if_pos (show nI 2 = (2 : Int32) from rfl), e3, eT, ob_some, if_pos (show encR r.reverse = 0 by rw [h0]; rfl), ob_some]
      · unfold f_X6_does f_X6_turn
        rw [rd0 _ (by decide) (by decide), ob_some, et, ob_some, if_neg (show ¬ nI (2 - 1) = (0 : Int32) by decide), if_pos (show nI (2 - 1) = (1 : Int32) from rfl), ob_some, if_pos (show s 0 = 0 by rw [e4, h0]; rfl), ob_some, if_pos rfl, ob_some]
      · exact ⟨rfl, rfl, rfl, Or.inr ⟨3, by decide, by decide, rfl⟩⟩
    · have hl0 : r.length ≠ 0 := fun e => h0 (List.length_eq_zero_iff.mp e)
      have hrv : r.reverse ≠ [] := fun e => h0 (List.reverse_eq_nil_iff.mp e)
      have eT := s_turned hF hr
      obtain ⟨s', es, hs'⟩ := hM.turn hF hr h0
      have e1 : s' 1 = nI (gl r.reverse 0) := hs'.2.1 0 (by show 0 < r.reverse.length; rw [List.length_reverse]; omega)
      have gg := gl_lt hr.rev.2 0
      apply mkst
      · unfold f_X3_carryOut
        rw [if_neg (show ¬ nI 2 = (1 : Int32) by decide), if_pos (show nI 2 = (2 : Int32) from rfl), e3, eT, ob_some, if_neg (encR_ne hr.rev hrv), ob_some]
      · unfold f_X6_does f_X6_turn
        rw [rd0 _ (by decide) (by decide), ob_some, et, ob_some, if_neg (show ¬ nI (2 - 1) = (0 : Int32) by decide), if_pos (show nI (2 - 1) = (1 : Int32) from rfl), ob_some, if_neg (show ¬ s 0 = 0 by rw [e4]; exact nIlit (m := 0) (by omega) (by decide) hl0), s_chg1, ob_some, es, ob_some, show rd 116 s' (1 : Int32) = some (s' 1) from rd_ok (i := 1) _ (by decide) (by decide), ob_some, ob_some, e1, if_neg (nI_np (by omega)), ob_some]
      · exact ⟨rfl, rfl, rfl, Or.inl ⟨rfl, (r.reverse, t, bk), rfl, hC.row rfl hr.rev, hs'⟩⟩
  · obtain rfl := hkR (Or.inl rfl)
    obtain ⟨pre, post, now', kept', hS, em⟩ := s_place hF hM hr ht now kp hk
    obtain ⟨z, eo, ett, ep, er⟩ := s_ways hF hk hr bk htab ws ww wk wd_ mw mx my mr mt hS
    have hSl := SH_len (k := kd) (t := t) (bk := bk) hr
    have hpl : pre.length < (SH kd (r, t, bk)).length := by rw [hS, List.length_append]; show _ < pre.length + (post.length + 1); omega
    have hmv := s_moves hF hM hr ht now' kept' hk ps 1 past (s_chg1 F ps s past) (j := pre.length + 1) (by omega)
    cases hw : (SH kd (r, t, bk))[pre.length + 1]? with
    | none =>
      obtain ⟨now2, kept2, e6⟩ := hmv.2 hw
      have hlen := List.getElem?_eq_none_iff.mp hw
      apply mkst
      · unfold f_X3_carryOut
        rw [if_neg (show ¬ nI 3 = (1 : Int32) by decide), if_neg (show ¬ nI 3 = (2 : Int32) by decide), if_pos (show nI 3 = (3 : Int32) from rfl), e3, eo, ob_some, if_pos (show nI 3 = (3 : Int32) from rfl), ep, ob_some, show nI pre.length + 1 = nI (pre.length + 1) from nI_add _ 1, ob_some, ett, ob_some, if_neg (nI_nlt hlen (by omega))]
      · unfold f_X6_does f_X6_next
        rw [rd0 _ (by decide) (by decide), ob_some, et, ob_some, if_neg (show ¬ nI (3 - 1) = (0 : Int32) by decide), if_neg (show ¬ nI (3 - 1) = (1 : Int32) by decide), if_pos (show nI (3 - 1) = (2 : Int32) from rfl), is4_ok F hk, ob_some, if_neg ne10, em, ob_some, show nI pre.length + 1 = nI (pre.length + 1) from nI_add _ 1, e6, ob_some, ob_some, ob_some, if_pos rfl, ob_some]
      · exact ⟨rfl, rfl, rfl, Or.inr ⟨1, by decide, by decide, rfl⟩⟩
    | some v =>
      obtain ⟨s', now2, kept2, e6, hs'⟩ := hmv.1 v hw
      have hlen := (List.getElem?_eq_some_iff.mp hw).1
      obtain ⟨hwo, hwl⟩ := SH_ok hr hw
      apply mkst
      · unfold f_X3_carryOut
        rw [if_neg (show ¬ nI 3 = (1 : Int32) by decide), if_neg (show ¬ nI 3 = (2 : Int32) by decide), if_pos (show nI 3 = (3 : Int32) from rfl), e3, eo, ob_some, if_pos (show nI 3 = (3 : Int32) from rfl), ep, ob_some, show nI pre.length + 1 = nI (pre.length + 1) from nI_add _ 1, ob_some, ett, ob_some, if_pos (nI_lt hlen (by omega)), er _ v hw, ob_some]
      · unfold f_X6_does f_X6_next
        rw [rd0 _ (by decide) (by decide), ob_some, et, ob_some, if_neg (show ¬ nI (3 - 1) = (0 : Int32) by decide), if_neg (show ¬ nI (3 - 1) = (1 : Int32) by decide), if_pos (show nI (3 - 1) = (2 : Int32) from rfl), is4_ok F hk, ob_some, if_neg ne10, em, ob_some, show nI pre.length + 1 = nI (pre.length + 1) from nI_add _ 1, e6, ob_some, ob_some, ob_some, if_neg (nI_np (by omega)), ob_some]
      · exact ⟨rfl, rfl, rfl, Or.inl ⟨rfl, (v, t, bk), rfl, hC.row rfl hwo, hs'⟩⟩
  · obtain rfl := hkR (Or.inr rfl)
    obtain rfl := hnR rfl
    obtain ⟨pre, post, -, -, hS, -⟩ := s_place hF hM hr ht now kp hk
    obtain ⟨z, eo, ett, -, er⟩ := s_ways hF hk hr bk htab ws ww wk wd_ mw mx my mr mt hS
    have hSl := SH_len (k := kd) (t := t) (bk := bk) hr
    have hf := s_finds hF (S := (r, t, bk)) hM hr ht now kp hk (j := nu) (by omega)
    cases hw : (SH kd (r, t, bk))[nu]? with
    | none =>
      obtain ⟨now2, kept2, e6⟩ := hf.2 hw
      have hlen := List.getElem?_eq_none_iff.mp hw
      apply mkst
      · unfold f_X3_carryOut
        rw [if_neg (show ¬ nI 4 = (1 : Int32) by decide), if_neg (show ¬ nI 4 = (2 : Int32) by decide), if_neg (show ¬ nI 4 = (3 : Int32) by decide), if_pos (show nI 4 = (4 : Int32) from rfl), e3, eo, ob_some, if_neg (show ¬ nI 4 = (3 : Int32) by decide), ob_some, ett, ob_some, if_neg (nI_nlt hlen (by omega))]
      · unfold f_X6_does f_X6_at
        rw [rd0 _ (by decide) (by decide), ob_some, et, ob_some, if_neg (show ¬ nI (4 - 1) = (0 : Int32) by decide), if_neg (show ¬ nI (4 - 1) = (1 : Int32) by decide), if_neg (show ¬ nI (4 - 1) = (2 : Int32) by decide), if_pos (show nI (4 - 1) = (3 : Int32) from rfl), is4_ok F hk, ob_some, if_neg ne10, if_pos (nI_pos' (by omega)), e6, ob_some, if_pos rfl, ob_some, if_pos rfl, ob_some]
      · exact ⟨rfl, rfl, rfl, Or.inr ⟨1, by decide, by decide, rfl⟩⟩
    | some v =>
      obtain ⟨now2, kept2, e6, hv⟩ := hf.1 v hw
      have hlen := (List.getElem?_eq_some_iff.mp hw).1
      obtain ⟨hwo, hwl⟩ := SH_ok hr hw
      obtain ⟨s', e5, hs'⟩ := s_takes hF hM hr hwl hv
      have e7 := s_same hF (S := (r, t, bk)) hM hr hv hwl
      have e8 := agr_le r v
      apply mkst
      · unfold f_X3_carryOut
        rw [if_neg (show ¬ nI 4 = (1 : Int32) by decide), if_neg (show ¬ nI 4 = (2 : Int32) by decide), if_neg (show ¬ nI 4 = (3 : Int32) by decide), if_pos (show nI 4 = (4 : Int32) from rfl), e3, eo, ob_some, if_neg (show ¬ nI 4 = (3 : Int32) by decide), ob_some, ett, ob_some, if_pos (nI_lt hlen (by omega)), er _ v hw, ob_some]
      · unfold f_X6_does f_X6_at
        rw [rd0 _ (by decide) (by decide), ob_some, et, ob_some, if_neg (show ¬ nI (4 - 1) = (0 : Int32) by decide), if_neg (show ¬ nI (4 - 1) = (1 : Int32) by decide), if_neg (show ¬ nI (4 - 1) = (2 : Int32) by decide), if_pos (show nI (4 - 1) = (3 : Int32) from rfl), is4_ok F hk, ob_some, if_neg ne10, if_pos (nI_pos' (by omega)), e6, ob_some, if_neg ne10, s_chg1, ob_some, ob_some, e7, ob_some, e4, nI_sub e8, ob_some, e5, ob_some, ob_some, if_neg (nI_np (by omega)), ob_some]
      · exact ⟨rfl, rfl, rfl, Or.inl ⟨rfl, (v, t, bk), rfl, hC.row rfl hwo, hs'⟩⟩
  · have ek : kept = nI bk.length := hC.2.2.2.1
    have e27 : s 27 = nI bk.length := hM.2.2.2.1
    have h8 : bk.length ≤ 8 := hC.2.2.2.2.1
    by_cases h88 : bk.length < 8
    · by_cases h0 : r = []
      · apply mkst
        · unfold f_X3_carryOut f_X3_putIntoBook
          rw [if_neg (show ¬ nI 5 = (1 : Int32) by decide), if_neg (show ¬ nI 5 = (2 : Int32) by decide), if_neg (show ¬ nI 5 = (3 : Int32) by decide), if_neg (show ¬ nI 5 = (4 : Int32) by decide), if_pos (show nI 5 = (5 : Int32) from rfl), ek, if_pos (show nI bk.length < (8 : Int32) from nI_lt h88 (by decide)), if_pos (show row = 0 by rw [e3, h0]; rfl), ob_some]
        · unfold f_X6_does
          rw [rd0 _ (by decide) (by decide), ob_some, et, ob_some, if_neg (show ¬ nI (5 - 1) = (0 : Int32) by decide), if_neg (show ¬ nI (5 - 1) = (1 : Int32) by decide), if_neg (show ¬ nI (5 - 1) = (2 : Int32) by decide), if_neg (show ¬ nI (5 - 1) = (3 : Int32) by decide), show rd 116 s (27 : Int32) = some (s 27) from rd_ok (i := 27) _ (by decide) (by decide), ob_some, e27, if_neg (show ¬ nI bk.length = (8 : Int32) from nIlit (m := 8) (by omega) (by decide) (by omega)), if_pos h0, if_neg ne10, ob_some]
        · exact ⟨rfl, rfl, rfl, Or.inr ⟨3, by decide, by decide, rfl⟩⟩
      · have hl0 : r.length ≠ 0 := fun e => h0 (List.length_eq_zero_iff.mp e)
        have n0 : ¬ row = 0 := by rw [e3]; exact encR_ne hr h0
        have n1 : ¬ s 0 = 0 := by rw [e4]; exact nIlit (m := 0) (by omega) (by decide) hl0
        have ekr : f_X1_keepRow F row (nI bk.length) book = some (nI (bk.length + 1), upd book bk.length row) := by
          unfold f_X1_keepRow
          rw [if_neg (nI_pos (by omega)), if_neg (show ¬ (8 : Int32) ≤ nI bk.length from nI_ge h88 (by decide)), wr_ok _ _ h88 (by decide), ob_some, show (1 : Int32) = nI 1 from rfl, nI_add, ob_some, ob_some]
        apply mkst
        · unfold f_X3_carryOut f_X3_putIntoBook
          rw [if_neg (show ¬ nI 5 = (1 : Int32) by decide), if_neg (show ¬ nI 5 = (2 : Int32) by decide), if_neg (show ¬ nI 5 = (3 : Int32) by decide), if_neg (show ¬ nI 5 = (4 : Int32) by decide), if_pos (show nI 5 = (5 : Int32) from rfl), ek, if_pos (show nI bk.length < (8 : Int32) from nI_lt h88 (by decide)), if_neg n0, ekr, ob_some, ob_some]
        · unfold f_X6_does f_X6_keep
          rw [rd0 _ (by decide) (by decide), ob_some, et, ob_some, if_neg (show ¬ nI (5 - 1) = (0 : Int32) by decide), if_neg (show ¬ nI (5 - 1) = (1 : Int32) by decide), if_neg (show ¬ nI (5 - 1) = (2 : Int32) by decide), if_neg (show ¬ nI (5 - 1) = (3 : Int32) by decide), show rd 116 s (27 : Int32) = some (s 27) from rd_ok (i := 27) _ (by decide) (by decide), ob_some, e27, if_neg (show ¬ nI bk.length = (8 : Int32) from nIlit (m := 8) (by omega) (by decide) (by omega)), if_neg h0, if_pos rfl, ob_some, if_neg n1, ob_some, if_neg (show ¬ nI bk.length = (8 : Int32) from nIlit (m := 8) (by omega) (by decide) (by omega)), s_chg1, ob_some, ob_some, show (11 : Int32) = nI 11 from rfl, nI_mul, show (28 : Int32) = nI 28 from rfl, nI_add, ob_some, k47 hF s h88, ob_some, show (27 : Int32) = nI 27 from rfl, rd_ok _ (by decide) (by decide), ob_some, if_neg (show ¬ (28 + 11 * bk.length ≤ 27 ∧ 27 < 28 + 11 * bk.length + 11) by omega), e27, wr_ok _ _ (by decide) (by decide), ob_some, rd_ok _ (by decide) (by decide), ob_some, upd_s, show (1 : Int32) = nI 1 from rfl, nI_add, ob_some, if_neg (nI_nle (by omega) (by omega)), ob_some]
        · dsimp only
          refine ⟨rfl, rfl, rfl, Or.inl ⟨rfl, (r, t, bk ++ [r]), rfl, (ek ▸ hC).keep h88, ?_⟩⟩
          exact hM.keep h10 h88 (fun j q hj => (hC.2.2.2.2.2 j q hj).2) (fun j hj => upd_n _ _ hj) (upd_s _ _ _)
    · apply mkst
      · unfold f_X3_carryOut f_X3_putIntoBook
        rw [if_neg (show ¬ nI 5 = (1 : Int32) by decide), if_neg (show ¬ nI 5 = (2 : Int32) by decide), if_neg (show ¬ nI 5 = (3 : Int32) by decide), if_neg (show ¬ nI 5 = (4 : Int32) by decide), if_pos (show nI 5 = (5 : Int32) from rfl), ek, if_neg (show ¬ nI bk.length < (8 : Int32) from nI_nlt (b := 8) (by omega) (by omega)), ob_some]
      · unfold f_X6_does
        rw [rd0 _ (by decide) (by decide), ob_some, et, ob_some, if_neg (show ¬ nI (5 - 1) = (0 : Int32) by decide), if_neg (show ¬ nI (5 - 1) = (1 : Int32) by decide), if_neg (show ¬ nI (5 - 1) = (2 : Int32) by decide), if_neg (show ¬ nI (5 - 1) = (3 : Int32) by decide), show rd 116 s (27 : Int32) = some (s 27) from rd_ok (i := 27) _ (by decide) (by decide), ob_some, e27, if_pos (show nI bk.length = (8 : Int32) by rw [show bk.length = 8 by omega]; rfl), ob_some]
      · exact ⟨rfl, rfl, rfl, Or.inr ⟨2, by decide, by decide, rfl⟩⟩
