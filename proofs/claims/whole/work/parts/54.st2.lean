theorem loop_fill {Lp : Nat → Int32 → (Nat → Int32) → Option (Nat → Int32)} {N a : Nat} {h : Nat → Int32} (f : Nat → Int32) (hx : ∀ n g, Lp (n + 1) (nI N) g = some g) (hs : ∀ n k g, k < N → (∀ j, (j < a ∨ a + k ≤ j) → g j = f j) → Lp (n + 1) (nI k) g = Lp n (nI (k + 1)) (upd g (a + k) (h k))) :
    ∀ d n k, k + d = N → d < n → Lp n (nI k) (fun j => if a ≤ j ∧ j < a + k then h (j - a) else f j) = some (fun j => if a ≤ j ∧ j < a + N then h (j - a) else f j) := by
  intro d
  induction d with
  | zero =>
    intro n k hk hn
    obtain ⟨m, rfl⟩ : ∃ m, n = m + 1 := ⟨n - 1, by omega⟩
    obtain rfl : k = N := by omega
    exact hx m _
  | succ d ih =>
    intro n k hk hn
    obtain ⟨m, rfl⟩ : ∃ m, n = m + 1 := ⟨n - 1, by omega⟩
    rw [hs m k _ (by omega) (fun j hj => if_neg (by omega))]
    have e : upd (fun j => if a ≤ j ∧ j < a + k then h (j - a) else f j) (a + k) (h k) = (fun j => if a ≤ j ∧ j < a + (k + 1) then h (j - a) else f j) := by
      funext j
      unfold upd
      by_cases hj : j = a + k
      · subst hj
        rw [if_pos rfl, if_pos (by omega)]
        congr 1
        omega
      · rw [if_neg hj]
        dsimp only
        by_cases h2 : a ≤ j ∧ j < a + k
        · rw [if_pos h2, if_pos (by omega)]
        · rw [if_neg h2, if_neg (by omega)]
    rw [e]
    exact ih m (k + 1) (by omega) (by omega)
theorem loop_fill0 {Lp : Nat → Int32 → (Nat → Int32) → Option (Nat → Int32)} {N a : Nat} {h : Nat → Int32} (f : Nat → Int32) (hx : ∀ n g, Lp (n + 1) (nI N) g = some g) (hs : ∀ n k g, k < N → (∀ j, (j < a ∨ a + k ≤ j) → g j = f j) → Lp (n + 1) (nI k) g = Lp n (nI (k + 1)) (upd g (a + k) (h k))) {n : Nat} (hn : N < n) :
    Lp n (0 : Int32) f = some (fun j => if a ≤ j ∧ j < a + N then h (j - a) else f j) := by
  have e := loop_fill f hx hs N n 0 (by omega) hn
  have e0 : (fun j => if a ≤ j ∧ j < a + 0 then h (j - a) else f j) = f := by
    funext j
    rw [if_neg (by omega)]
  rw [e0] at e
  exact e
theorem k47 {F : Nat} (hF : 1100000 ≤ F) (s : Nat → Int32) {b : Nat} (hb : b < 8) : f_X6_keep_L47 F (nI (28 + 11 * b)) F (0 : Int32) s = some (fun j => if 28 + 11 * b ≤ j ∧ j < 28 + 11 * b + 11 then s (j - (28 + 11 * b)) else s j) := by
  refine loop_fill0 (Lp := f_X6_keep_L47 F (nI (28 + 11 * b))) (N := 11) (a := 28 + 11 * b) (h := s) s ?_ ?_ (by omega)
  · intro n g
    rw [f_X6_keep_L47, if_pos (show (11 : Int32) ≤ nI 11 from nI_le (a := 11) (b := 11) (by omega) (by decide))]
  · intro n k g hk hg
    rw [f_X6_keep_L47, if_neg (show ¬ (11 : Int32) ≤ nI k from nI_ge hk (by decide)), show (0 : Int32) = nI 0 from rfl, nI_add, Nat.zero_add, rd_ok _ (by omega) (by decide), ob_some, nI_add, wr_ok _ _ (by omega) (by decide), ob_some, show (1 : Int32) = nI 1 from rfl, nI_add, ob_some, hg k (by omega)]
theorem r27 {F : Nat} (hF : 1100000 ≤ F) (s : Nat → Int32) {p : Nat} (hp : p < 8) : f_X6_recall_L27 F (nI p) F (0 : Int32) s = some (fun j => if 0 ≤ j ∧ j < 0 + 11 then s (28 + 11 * p + (j - 0)) else s j) := by
  refine loop_fill0 (Lp := f_X6_recall_L27 F (nI p)) (N := 11) (a := 0) (h := fun k => s (28 + 11 * p + k)) s ?_ ?_ (by omega)
  · intro n g
    rw [f_X6_recall_L27, if_pos (show (11 : Int32) ≤ nI 11 from nI_le (a := 11) (b := 11) (by omega) (by decide))]
  · intro n k g hk hg
    rw [f_X6_recall_L27, if_neg (show ¬ (11 : Int32) ≤ nI k from nI_ge hk (by decide)), show (11 : Int32) = nI 11 from rfl, nI_mul, show (28 : Int32) = nI 28 from rfl, nI_add, nI_add, rd_ok _ (by omega) (by decide), ob_some, show (0 : Int32) = nI 0 from rfl, nI_add, wr_ok _ _ (by omega) (by decide), ob_some, show (1 : Int32) = nI 1 from rfl, nI_add, ob_some, hg _ (by omega)]
theorem u22 {F : Nat} (hF : 1100000 ≤ F) (past s : Nat → Int32) {v : Nat} (hv : v < 4) : f_X6_undo_L22 F past (nI v) F (0 : Int32) s = some (fun j => if 0 ≤ j ∧ j < 0 + 116 then past (116 * v + (j - 0)) else s j) := by
  refine loop_fill0 (Lp := f_X6_undo_L22 F past (nI v)) (N := 116) (a := 0) (h := fun k => past (116 * v + k)) s ?_ ?_ (by omega)
  · intro n g
    rw [f_X6_undo_L22, if_pos (show (116 : Int32) ≤ nI 116 from nI_le (a := 116) (b := 116) (by omega) (by decide))]
  · intro n k g hk hg
    rw [f_X6_undo_L22, if_neg (show ¬ (116 : Int32) ≤ nI k from nI_ge hk (by decide)), show (116 : Int32) = nI 116 from rfl, nI_mul, nI_add, rd_ok _ (by omega) (by decide), ob_some, wr_ok _ _ (by omega) (by decide), ob_some, show (1 : Int32) = nI 1 from rfl, nI_add, ob_some, Nat.zero_add]
theorem nIlit {n m : Nat} (hn : n < 2 ^ 31) (hm : m < 2 ^ 31) (h : n ≠ m) : ¬ nI n = nI m := fun e => h ((nI_eq hn hm).mp e)
theorem encR_ne {r : List Nat} (h : RowOk r) (hr : r ≠ []) : ¬ encR r = (0 : Int32) := fun e => hr ((encR_0 h).mp e)
-- the book with one row more
theorem bk_snoc {bk : List (List Nat)} {r : List Nat} {j : Nat} {q : List Nat} (h : (bk ++ [r])[j]? = some q) : (j < bk.length ∧ bk[j]? = some q) ∨ (j = bk.length ∧ q = r) := by
  rcases Nat.lt_or_ge j bk.length with h1 | h1
  · rw [List.getElem?_append_left h1] at h
    exact Or.inl ⟨h1, h⟩
  · rw [List.getElem?_append_right h1] at h
    have hz : j - bk.length < 1 := (List.getElem?_eq_some_iff.mp h).1
    rw [show j - bk.length = 0 by omega] at h
    cases h
    exact Or.inr ⟨by omega, rfl⟩
theorem StC.keep {row table kept : Int32} {book : Nat → Int32} {r : List Nat} {t : Nat → Nat} {bk : List (List Nat)} (h : StC row table kept book (r, t, bk)) (h8 : bk.length < 8) : StC row table (nI (bk.length + 1)) (upd book bk.length row) (r, t, bk ++ [r]) := by
  obtain ⟨h1, h2, h3, h4, h5, h6⟩ := h
  refine ⟨h1, h2, h3, by rw [List.length_append]; rfl, by rw [List.length_append]; show bk.length + 1 ≤ 8; omega, fun j q hj => ?_⟩
  rcases bk_snoc hj with ⟨a, b⟩ | ⟨rfl, rfl⟩
  · rw [upd_n _ _ (by omega)]
    exact h6 j q b
  · rw [upd_s]
    exact ⟨h1, h2⟩
theorem StM.keep {s s' : Nat → Int32} {r : List Nat} {t : Nat → Nat} {bk : List (List Nat)} (h : StM s (r, t, bk)) (hr : r.length ≤ 10) (h8 : bk.length < 8) (hq : ∀ (j : Nat) (q : List Nat), bk[j]? = some q → RowOk q) (e : ∀ j, j ≠ 27 → s' j = if 28 + 11 * bk.length ≤ j ∧ j < 28 + 11 * bk.length + 11 then s (j - (28 + 11 * bk.length)) else s j) (e27 : s' 27 = nI (bk.length + 1)) : StM s' (r, t, bk ++ [r]) := by
  obtain ⟨h1, h2, h3, h4, h5⟩ := h
  refine ⟨?_, fun i hi => ?_, fun k hk => ?_, ?_, fun j q hj => ?_⟩
  · rw [e 0 (by decide), if_neg (by omega)]; exact h1
  · have hi : i < r.length := hi
    rw [e _ (by omega), if_neg (by omega)]; exact h2 i hi
  · rw [e _ (by omega), if_neg (by omega)]; exact h3 k hk
  · rw [e27, List.length_append]; rfl
  · rcases bk_snoc hj with ⟨a, b⟩ | ⟨rfl, rfl⟩
    · obtain ⟨g1, g2⟩ := h5 j q b
      have hl := (hq j q b).1
      exact ⟨by rw [e _ (by omega), if_neg (by omega)]; exact g1, fun i hi => by rw [e _ (by omega), if_neg (by omega)]; exact g2 i hi⟩
    · refine ⟨by rw [e _ (by omega), if_pos (by omega), Nat.sub_self]; exact h1, fun i hi => ?_⟩
      rw [e _ (by omega), if_pos (by omega), show 29 + 11 * bk.length + i - (28 + 11 * bk.length) = 1 + i by omega]
      exact h2 i hi
theorem st_keep {F : Nat} (hF : 1100000 ≤ F) {x_pastStates : Int32} {x_now_row : Int32} {x_now_table : Int32} {x_now_kept : Int32} {x_now_book : Nat → Int32} {x_text_length : Int32} {x_text_signs : Nat → Int32} {p0_row : Int32} {p0_table : Int32} {p0_kept : Int32} {p0_book : Nat → Int32} {p1_row : Int32} {p1_table : Int32} {p1_kept : Int32} {p1_book : Nat → Int32} {p2_row : Int32} {p2_table : Int32} {p2_kept : Int32} {p2_book : Nat → Int32} {p3_row : Int32} {p3_table : Int32} {p3_kept : Int32} {p3_book : Nat → Int32} {m_pasts : Int32} {m_runs0 : Int32} {m_typed : Int32} {m_s : Nat → Int32} {m_past : Nat → Int32} {m_text : Nat → Int32} (h : Rel x_pastStates x_now_row x_now_table x_now_kept x_now_book x_text_length x_text_signs p0_row p0_table p0_kept p0_book p1_row p1_table p1_kept p1_book p2_row p2_table p2_kept p2_book p3_row p3_table p3_kept p3_book m_pasts m_runs0 m_typed m_s m_past m_text) : ∃ rx rm, f_X5_keep F x_pastStates x_now_row x_now_table x_now_kept x_now_book p0_row p0_table p0_kept p0_book p1_row p1_table p1_kept p1_book p2_row p2_table p2_kept p2_book p3_row p3_table p3_kept p3_book = some rx ∧ f_X6_keep F m_pasts m_runs0 m_s m_past = some rm ∧ rx.1 = rm.1 ∧ Rel rx.2.1 x_now_row x_now_table rx.2.2.1 rx.2.2.2.1 x_text_length x_text_signs rx.2.2.2.2.1 rx.2.2.2.2.2.1 rx.2.2.2.2.2.2.1 rx.2.2.2.2.2.2.2.1 rx.2.2.2.2.2.2.2.2.1 rx.2.2.2.2.2.2.2.2.2.1 rx.2.2.2.2.2.2.2.2.2.2.1 rx.2.2.2.2.2.2.2.2.2.2.2.1 rx.2.2.2.2.2.2.2.2.2.2.2.2.1 rx.2.2.2.2.2.2.2.2.2.2.2.2.2.1 rx.2.2.2.2.2.2.2.2.2.2.2.2.2.2.1 rx.2.2.2.2.2.2.2.2.2.2.2.2.2.2.2.1 rx.2.2.2.2.2.2.2.2.2.2.2.2.2.2.2.2.1 rx.2.2.2.2.2.2.2.2.2.2.2.2.2.2.2.2.2.1 rx.2.2.2.2.2.2.2.2.2.2.2.2.2.2.2.2.2.2.1 rx.2.2.2.2.2.2.2.2.2.2.2.2.2.2.2.2.2.2.2 rm.2.1 m_runs0 m_typed rm.2.2.1 rm.2.2.2 m_text := by
  obtain ⟨⟨r, t, bk⟩, hs, tx, hC, hM, hH, hHM, rfl, hT⟩ := h
  have hr : RowOk r := hC.2.1
  have e3 : x_now_row = encR r := hC.1
  have e4 : m_s 0 = nI r.length := hM.1
  have ek : x_now_kept = nI bk.length := hC.2.2.2.1
  have e27 : m_s 27 = nI bk.length := hM.2.2.2.1
  have h8 : bk.length ≤ 8 := hC.2.2.2.2.1
  by_cases hr0 : r = []
  · apply mkst
    · unfold f_X5_keep
      rw [if_pos (by rw [e3, hr0]; rfl)]
    · unfold f_X6_keep
      rw [rd0 _ (by decide) (by decide), ob_some, if_pos (by rw [e4, hr0]; rfl)]
    · exact ⟨rfl, (r, t, bk), hs, tx, hC, hM, hH, hHM, rfl, hT⟩
  have hl0 : r.length ≠ 0 := fun e => hr0 (List.length_eq_zero_iff.mp e)
  have hl := hr.1
  have n0 : ¬ x_now_row = 0 := by rw [e3]; exact encR_ne hr hr0
  have n1 : ¬ m_s 0 = 0 := by rw [e4]; exact nIlit (m := 0) (by omega) (by decide) hl0
  by_cases h88 : bk.length < 8
  · obtain ⟨z, ez, hz⟩ := s_record F hC hH
    obtain ⟨m, em, hm⟩ := s_changes hF hHM hH.2.1 hM hC.ok hH.ok
    have ekr : f_X1_keepRow F x_now_row (nI bk.length) x_now_book = some (nI (bk.length + 1), upd x_now_book bk.length x_now_row) := by
      unfold f_X1_keepRow
      rw [if_neg (nI_pos (by omega)), if_neg (show ¬ (8 : Int32) ≤ nI bk.length from nI_ge h88 (by decide)), wr_ok _ _ h88 (by decide), ob_some, show (1 : Int32) = nI 1 from rfl, nI_add, ob_some, ob_some]
    apply mkst
    · unfold f_X5_keep
      rw [ez, if_neg n0, ek, if_pos (show nI bk.length < (8 : Int32) from nI_lt h88 (by decide)), ob_some, ekr, ob_some]
    · unfold f_X6_keep
      rw [rd0 _ (by decide) (by decide), ob_some, if_neg n1, show (27 : Int32) = nI 27 from rfl, rd_ok _ (by decide) (by decide), ob_some, e27, if_neg (show ¬ nI bk.length = (8 : Int32) from nIlit (m := 8) (by omega) (by decide) (by omega)), em, ob_some, ob_some, show (11 : Int32) = nI 11 from rfl, nI_mul, show (28 : Int32) = nI 28 from rfl, nI_add, ob_some, k47 hF m_s h88, ob_some, rd_ok _ (by decide) (by decide), ob_some, if_neg (by omega), e27, wr_ok _ _ (by decide) (by decide), ob_some, rd_ok _ (by decide) (by decide), ob_some, upd_s, show (1 : Int32) = nI 1 from rfl, nI_add]
    · dsimp only
      refine ⟨rfl, (r, t, bk ++ [r]), push hs (r, t, bk), tx, hC.keep h88, ?_, hz, hm, rfl, hT⟩
      exact hM.keep hl h88 (fun j q hj => (hC.2.2.2.2.2 j q hj).2) (fun j hj => upd_n _ _ hj) (upd_s _ _ _)
  · apply mkst
    · unfold f_X5_keep
      rw [if_neg n0, ek, if_neg (show ¬ nI bk.length < (8 : Int32) from nI_nlt (b := 8) (by omega) (by omega))]
    · unfold f_X6_keep
      rw [rd0 _ (by decide) (by decide), ob_some, if_neg n1, show (27 : Int32) = nI 27 from rfl, rd_ok _ (by decide) (by decide), ob_some, e27, if_pos (show nI bk.length = (8 : Int32) by rw [show bk.length = 8 by omega]; rfl)]
    · exact ⟨rfl, (r, t, bk), hs, tx, ek ▸ hC, hM, hH, hHM, rfl, hT⟩
theorem gl_mem {r : List Nat} {i : Nat} (h : i < r.length) : r[i]? = some (gl r i) := by
  unfold gl
  rw [List.getD_eq_getElem?_getD, List.getElem?_eq_getElem h]
  rfl
theorem st_recall {F : Nat} (hF : 1100000 ≤ F) {x_pastStates : Int32} {x_now_row : Int32} {x_now_table : Int32} {x_now_kept : Int32} {x_now_book : Nat → Int32} {x_text_length : Int32} {x_text_signs : Nat → Int32} {p0_row : Int32} {p0_table : Int32} {p0_kept : Int32} {p0_book : Nat → Int32} {p1_row : Int32} {p1_table : Int32} {p1_kept : Int32} {p1_book : Nat → Int32} {p2_row : Int32} {p2_table : Int32} {p2_kept : Int32} {p2_book : Nat → Int32} {p3_row : Int32} {p3_table : Int32} {p3_kept : Int32} {p3_book : Nat → Int32} {m_pasts : Int32} {m_runs0 : Int32} {m_typed : Int32} {m_s : Nat → Int32} {m_past : Nat → Int32} {m_text : Nat → Int32} (h : Rel x_pastStates x_now_row x_now_table x_now_kept x_now_book x_text_length x_text_signs p0_row p0_table p0_kept p0_book p1_row p1_table p1_kept p1_book p2_row p2_table p2_kept p2_book p3_row p3_table p3_kept p3_book m_pasts m_runs0 m_typed m_s m_past m_text) (a1 : Int32) : ∃ rx rm, f_X5_recall F x_pastStates x_now_row x_now_table x_now_kept x_now_book p0_row p0_table p0_kept p0_book p1_row p1_table p1_kept p1_book p2_row p2_table p2_kept p2_book p3_row p3_table p3_kept p3_book a1 = some rx ∧ f_X6_recall F m_pasts m_runs0 m_s m_past a1 = some rm ∧ rx.1 = rm.1 ∧ Rel rx.2.1 rx.2.2.1 x_now_table x_now_kept x_now_book x_text_length x_text_signs rx.2.2.2.1 rx.2.2.2.2.1 rx.2.2.2.2.2.1 rx.2.2.2.2.2.2.1 rx.2.2.2.2.2.2.2.1 rx.2.2.2.2.2.2.2.2.1 rx.2.2.2.2.2.2.2.2.2.1 rx.2.2.2.2.2.2.2.2.2.2.1 rx.2.2.2.2.2.2.2.2.2.2.2.1 rx.2.2.2.2.2.2.2.2.2.2.2.2.1 rx.2.2.2.2.2.2.2.2.2.2.2.2.2.1 rx.2.2.2.2.2.2.2.2.2.2.2.2.2.2.1 rx.2.2.2.2.2.2.2.2.2.2.2.2.2.2.2.1 rx.2.2.2.2.2.2.2.2.2.2.2.2.2.2.2.2.1 rx.2.2.2.2.2.2.2.2.2.2.2.2.2.2.2.2.2.1 rx.2.2.2.2.2.2.2.2.2.2.2.2.2.2.2.2.2.2 rm.2.1 m_runs0 m_typed rm.2.2.1 rm.2.2.2 m_text := by
  obtain ⟨⟨r, t, bk⟩, hs, tx, hC, hM, hH, hHM, rfl, hT⟩ := h
  have ek : x_now_kept = nI bk.length := hC.2.2.2.1
  have e27 : m_s 27 = nI bk.length := hM.2.2.2.1
  have h8 : bk.length ≤ 8 := hC.2.2.2.2.1
  by_cases h0 : 0 ≤ a1
  · obtain ⟨p, hp, rfl⟩ := nI_of (Int32.not_lt.mpr h0)
    by_cases h1 : p < bk.length
    · obtain ⟨q, hq⟩ : ∃ q, bk[p]? = some q := ⟨_, List.getElem?_eq_getElem h1⟩
      obtain ⟨eq1, hqr⟩ := hC.2.2.2.2.2 p q hq
      obtain ⟨g1, g2⟩ := hM.2.2.2.2 p q hq
      obtain ⟨z, ez, hz⟩ := s_record F hC hH
      obtain ⟨m, em, hm⟩ := s_changes hF hHM hH.2.1 hM hC.ok hH.ok
      apply mkst
      · unfold f_X5_recall f_X1_keptRow
        rw [if_pos h0, ez, ek, if_pos (nI_lt h1 (by omega)), ob_some, if_neg (nI_pos (by omega)), if_neg (show ¬ (8 : Int32) ≤ nI p from nI_ge (b := 8) (by omega) (by decide)), rd_ok _ (by omega) (by decide), ob_some, ob_some, ob_some, eq1, s_lengthOf F hqr, ob_some]
      · unfold f_X6_recall
        rw [if_pos h0, show rd 116 m_s (27 : Int32) = some (m_s 27) from rd_ok (i := 27) _ (by decide) (by decide), ob_some, e27, if_pos (nI_lt h1 (by omega)), em, ob_some, r27 hF m_s (by omega), ob_some, rd0 _ (by decide) (by decide), ob_some, if_pos (by omega)]
      · dsimp only
        refine ⟨g1.symm, (q, t, bk), push hs (r, t, bk), tx, hC.row rfl hqr, ?_, hz, hm, rfl, hT⟩
        have hql := hqr.1
        refine hM.row ?_ ?_ ?_
        · rw [if_pos (by omega)]; exact g1
        · intro i hi
          rw [if_pos (by omega), show 28 + 11 * p + (1 + i - 0) = 29 + 11 * p + i by omega]
          exact g2 i hi
        · intro k hk
          rw [if_neg (by omega)]
    · apply mkst
      · unfold f_X5_recall
        rw [if_pos h0, ek, if_neg (nI_nlt (by omega) hp)]
      · unfold f_X6_recall
        rw [if_pos h0, show rd 116 m_s (27 : Int32) = some (m_s 27) from rd_ok (i := 27) _ (by decide) (by decide), ob_some, e27, if_neg (nI_nlt (by omega) hp)]
      · exact ⟨rfl, (r, t, bk), hs, tx, ek ▸ hC, hM, hH, hHM, rfl, hT⟩
  · apply mkst
    · unfold f_X5_recall; rw [if_neg h0]
    · unfold f_X6_recall; rw [if_neg h0]
    · exact ⟨rfl, (r, t, bk), hs, tx, hC, hM, hH, hHM, rfl, hT⟩
theorem s_undoM {F : Nat} (hF : 1100000 ≤ F) {past s : Nat → Int32} {hs : List AS} {S : AS} (h : HiM (nI (hs ++ [S]).length) past (hs ++ [S])) (hl : (hs ++ [S]).length ≤ 4) (hok : AOk S) : ∃ s', f_X6_undo F (nI (hs ++ [S]).length) s past = some (nI hs.length, nI hs.length, s') ∧ StM s' S ∧ HiM (nI hs.length) past hs := by
  have e : (hs ++ [S]).length = hs.length + 1 := by rw [List.length_append]; rfl
  rw [e] at hl ⊢
  unfold f_X6_undo
  rw [if_neg (show ¬ nI (hs.length + 1) = (0 : Int32) from nIlit (m := 0) (by omega) (by decide) (by omega)), show (1 : Int32) = nI 1 from rfl, nI_sub (by omega), Nat.add_sub_cancel, ob_some, u22 hF past s (by omega), ob_some]
  refine ⟨_, rfl, ?_, rfl, fun j S' hj => ?_⟩
  · refine (h.2 hs.length S (by rw [List.getElem?_append_right (Nat.le_refl _), Nat.sub_self]; rfl)).cong hok.2.1 hok.1.1 (fun j q hj => (hok.2.2 j q hj).1) (fun k hk => ?_)
    rw [if_pos (by omega), Nat.sub_zero]
  · refine h.2 j S' ?_
    rw [List.getElem?_append_left (List.getElem?_eq_some_iff.mp hj).1]
    exact hj
theorem st_undo {F : Nat} (hF : 1100000 ≤ F) {x_pastStates : Int32} {x_now_row : Int32} {x_now_table : Int32} {x_now_kept : Int32} {x_now_book : Nat → Int32} {x_text_length : Int32} {x_text_signs : Nat → Int32} {p0_row : Int32} {p0_table : Int32} {p0_kept : Int32} {p0_book : Nat → Int32} {p1_row : Int32} {p1_table : Int32} {p1_kept : Int32} {p1_book : Nat → Int32} {p2_row : Int32} {p2_table : Int32} {p2_kept : Int32} {p2_book : Nat → Int32} {p3_row : Int32} {p3_table : Int32} {p3_kept : Int32} {p3_book : Nat → Int32} {m_pasts : Int32} {m_runs0 : Int32} {m_typed : Int32} {m_s : Nat → Int32} {m_past : Nat → Int32} {m_text : Nat → Int32} (h : Rel x_pastStates x_now_row x_now_table x_now_kept x_now_book x_text_length x_text_signs p0_row p0_table p0_kept p0_book p1_row p1_table p1_kept p1_book p2_row p2_table p2_kept p2_book p3_row p3_table p3_kept p3_book m_pasts m_runs0 m_typed m_s m_past m_text) : ∃ rx rm, f_X5_undo F x_pastStates x_now_row x_now_table x_now_kept x_now_book p0_row p0_table p0_kept p0_book p1_row p1_table p1_kept p1_book p2_row p2_table p2_kept p2_book p3_row p3_table p3_kept p3_book = some rx ∧ f_X6_undo F m_pasts m_s m_past = some rm ∧ rx.1 = rm.1 ∧ Rel rx.2.1 rx.2.2.1 rx.2.2.2.1 rx.2.2.2.2.1 rx.2.2.2.2.2.1 x_text_length x_text_signs rx.2.2.2.2.2.2.1 rx.2.2.2.2.2.2.2.1 rx.2.2.2.2.2.2.2.2.1 rx.2.2.2.2.2.2.2.2.2.1 rx.2.2.2.2.2.2.2.2.2.2.1 rx.2.2.2.2.2.2.2.2.2.2.2.1 rx.2.2.2.2.2.2.2.2.2.2.2.2.1 rx.2.2.2.2.2.2.2.2.2.2.2.2.2.1 rx.2.2.2.2.2.2.2.2.2.2.2.2.2.2.1 rx.2.2.2.2.2.2.2.2.2.2.2.2.2.2.2.1 rx.2.2.2.2.2.2.2.2.2.2.2.2.2.2.2.2.1 rx.2.2.2.2.2.2.2.2.2.2.2.2.2.2.2.2.2.1 rx.2.2.2.2.2.2.2.2.2.2.2.2.2.2.2.2.2.2.1 rx.2.2.2.2.2.2.2.2.2.2.2.2.2.2.2.2.2.2.2.1 rx.2.2.2.2.2.2.2.2.2.2.2.2.2.2.2.2.2.2.2.2.1 rx.2.2.2.2.2.2.2.2.2.2.2.2.2.2.2.2.2.2.2.2.2 rm.2.1 m_runs0 m_typed rm.2.2 m_past m_text := by
  obtain ⟨⟨r, t, bk⟩, hs, tx, hC, hM, hH, hHM, rfl, hT⟩ := h
  obtain ⟨rfl, hl, g0, g1, g2, g3⟩ := hH
  obtain ⟨rfl, hHM'⟩ := id hHM
  match hs, hl with
  | [], hl =>
    apply mkst
    · unfold f_X5_undo f_X5_undo_0
      rw [if_pos (show nI ([] : List AS).length = (0 : Int32) from rfl)]
    · unfold f_X6_undo
      rw [if_pos (show nI ([] : List AS).length = (0 : Int32) from rfl)]
    · exact ⟨rfl, (r, t, bk), [], tx, hC, hM, ⟨rfl, hl, g0, g1, g2, g3⟩, hHM, rfl, hT⟩
  | [a], hl =>
    obtain ⟨w, e, hw⟩ := s_become F (b2 := x_now_book) (g0 a rfl)
    obtain ⟨s', es, h1, h2⟩ := s_undoM (hs := []) (s := m_s) hF hHM hl (g0 a rfl).ok
    apply mkst
    · unfold f_X5_undo f_X5_undo_1
      rw [if_neg (show ¬ nI [a].length = (0 : Int32) from by show ¬ (1 : Int32) = 0; decide), if_pos (show nI [a].length = (1 : Int32) from rfl), e, ob_some]
    · exact es
    · dsimp only
      exact ⟨rfl, a, [], tx, hw, h1, ⟨rfl, Nat.zero_le _, fun _ e => by simp at e, fun _ e => by simp at e, fun _ e => by simp at e, fun _ e => by simp at e⟩, h2, rfl, hT⟩
  | [a, b], hl =>
    obtain ⟨w, e, hw⟩ := s_become F (b2 := x_now_book) (g1 b rfl)
    obtain ⟨s', es, h1, h2⟩ := s_undoM (hs := [a]) (s := m_s) hF hHM hl (g1 b rfl).ok
    apply mkst
    · unfold f_X5_undo f_X5_undo_2
      rw [if_neg (show ¬ nI [a, b].length = (0 : Int32) from by show ¬ (2 : Int32) = 0; decide), if_neg (show ¬ nI [a, b].length = (1 : Int32) from by show ¬ (2 : Int32) = 1; decide), if_pos (show nI [a, b].length = (2 : Int32) from rfl), e, ob_some]
    · exact es
    · dsimp only
      exact ⟨rfl, b, [a], tx, hw, h1, ⟨rfl, Nat.le_of_ble_eq_true rfl, fun _ e => by cases e; exact g0 _ rfl, fun _ e => by simp at e, fun _ e => by simp at e, fun _ e => by simp at e⟩, h2, rfl, hT⟩
  | [a, b, d], hl =>
    obtain ⟨w, e, hw⟩ := s_become F (b2 := x_now_book) (g2 d rfl)
    obtain ⟨s', es, h1, h2⟩ := s_undoM (hs := [a, b]) (s := m_s) hF hHM hl (g2 d rfl).ok
    apply mkst
    · unfold f_X5_undo f_X5_undo_3
      rw [if_neg (show ¬ nI [a, b, d].length = (0 : Int32) from by show ¬ (3 : Int32) = 0; decide), if_neg (show ¬ nI [a, b, d].length = (1 : Int32) from by show ¬ (3 : Int32) = 1; decide), if_neg (show ¬ nI [a, b, d].length = (2 : Int32) from by show ¬ (3 : Int32) = 2; decide), if_pos (show nI [a, b, d].length = (3 : Int32) from rfl), e, ob_some]
    · exact es
    · dsimp only
      exact ⟨rfl, d, [a, b], tx, hw, h1, ⟨rfl, Nat.le_of_ble_eq_true rfl, fun _ e => by cases e; exact g0 _ rfl, fun _ e => by cases e; exact g1 _ rfl, fun _ e => by simp at e, fun _ e => by simp at e⟩, h2, rfl, hT⟩
  | [a, b, d, q], hl =>
    obtain ⟨w, e, hw⟩ := s_become F (b2 := x_now_book) (g3 q rfl)
    obtain ⟨s', es, h1, h2⟩ := s_undoM (hs := [a, b, d]) (s := m_s) hF hHM hl (g3 q rfl).ok
    apply mkst
    · unfold f_X5_undo f_X5_undo_4
      rw [if_neg (show ¬ nI [a, b, d, q].length = (0 : Int32) from by show ¬ (4 : Int32) = 0; decide), if_neg (show ¬ nI [a, b, d, q].length = (1 : Int32) from by show ¬ (4 : Int32) = 1; decide), if_neg (show ¬ nI [a, b, d, q].length = (2 : Int32) from by show ¬ (4 : Int32) = 2; decide), if_neg (show ¬ nI [a, b, d, q].length = (3 : Int32) from by show ¬ (4 : Int32) = 3; decide), if_pos (show nI [a, b, d, q].length = (4 : Int32) from rfl), e, ob_some]
    · exact es
    · dsimp only
      exact ⟨rfl, q, [a, b, d], tx, hw, h1, ⟨rfl, Nat.le_of_ble_eq_true rfl, fun _ e => by cases e; exact g0 _ rfl, fun _ e => by cases e; exact g1 _ rfl, fun _ e => by cases e; exact g2 _ rfl, fun _ e => by simp at e⟩, h2, rfl, hT⟩
  | a :: b :: d :: q :: w :: l, hl => exact absurd hl (by simp)
