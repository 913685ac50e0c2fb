theorem s_kin50 {F : Nat} (hF : 1100000 ≤ F) {s : Nat → Int32} {S : AS} (h : StM s S) {p : Nat} (hp : p < 8) {q : List Nat} (g2 : ∀ i, i < q.length → s (29 + 11 * p + i) = nI (gl q i)) (hq : RowOk q) (hl : q.length = S.1.length) (now : Nat → Int32) : ∃ now', f_X6_kinship_L50 F s (nI p) F (0 : Int32) now = some now' ∧ Nw now' q := by
  have hql := hq.1
  have k2 := loop_fill0 (Lp := f_X6_kinship_L50 F s (nI p)) (N := S.1.length) (a := 0) (h := fun k => s (29 + 11 * p + k)) now ?_ ?_ (n := F) (by omega)
  · refine ⟨_, k2, fun i hi => ⟨?_, gl_lt hq.2 i⟩⟩
    rw [if_pos (by omega), show 0 + i - 0 = i by omega]
    exact g2 i hi
  · intro n g
    rw [f_X6_kinship_L50, rd0 _ (by decide) (by decide), ob_some, h.1, if_pos (nI_le (Nat.le_refl _) (by omega))]
  · intro n k g hk hg
    rw [f_X6_kinship_L50, rd0 _ (by decide) (by decide), ob_some, h.1, if_neg (nI_ge hk (by omega)), show (11 : Int32) = nI 11 from rfl, nI_mul, show (28 : Int32) = nI 28 from rfl, nI_add, show (1 : Int32) = nI 1 from rfl, nI_add, nI_add, rd_ok _ (by omega) (by decide), ob_some, wr_ok _ _ (by omega) (by decide), ob_some, nI_add, ob_some, Nat.zero_add, show 28 + 11 * p + 1 + k = 29 + 11 * p + k by omega]
theorem s_kin90 {F : Nat} (hF : 1100000 ≤ F) {s : Nat → Int32} {S : AS} (h : StM s S) (hr : RowOk S.1) {now : Nat → Int32} {q : List Nat} (hv : Nw now q) (hl : q.length = S.1.length) : f_X6_kinship_L90 F s now F (1 : Int32) (0 : Int32) = some (nI (if SL S.1 q then 1 else 0)) := by
  have hrl := hr.1
  have hc : ∀ x, x < 4 → f_X6_kinship_L101 F s now (nI x) F (0 : Int32) (0 : Int32) = some (nI (letC q x)) := by
    intro x hx
    have key := loop_sum (Lp := f_X6_kinship_L101 F s now (nI x)) (N := S.1.length) 0 (f := fun i => if gl q i = x then 1 else 0) ?_ ?_ S.1.length F 0 0 (Nat.le_refl _) rfl (by omega) (by omega)
    · have key' : f_X6_kinship_L101 F s now (nI x) F (0 : Int32) (0 : Int32) = _ := key
      rw [key', Nat.zero_add, ← hl]
      rfl
    · intro n a k h1 h2
      rw [f_X6_kinship_L101, rd0 _ (by decide) (by decide), ob_some, h.1, if_pos (nI_le h1 (by omega))]
    · intro n a k _ hk
      obtain ⟨v1, g1⟩ := hv k (by omega)
      rw [Nat.zero_add] at v1
      rw [f_X6_kinship_L101, rd0 _ (by decide) (by decide), ob_some, h.1, if_neg (nI_ge hk (by omega)), rd_ok _ (by omega) (by decide), ob_some, v1]
      by_cases e : gl q k = x
      · rw [if_pos (by rw [e]), if_pos e, ob_some, show (1 : Int32) = nI 1 from rfl, nI_add, ob_some, nI_add, ob_some]
      · rw [if_neg (nIlit (by omega) (by omega) e), if_neg e, ob_some, show (0 : Int32) = nI 0 from rfl, show (1 : Int32) = nI 1 from rfl, nI_add, ob_some, nI_add, ob_some]
  refine loop_allM (Lp := f_X6_kinship_L90 F s now) (N := 4) (P := fun x => letC S.1 x = letC q x) nI ?_ ?_ ?_ ?_ (n := F) (by omega)
  · intro n u
    rw [f_X6_kinship_L90, if_pos (show (4 : Int32) ≤ nI 4 from nI_le (a := 4) (b := 4) (by omega) (by decide))]
  · intro n k hk
    right
    rw [f_X6_kinship_L90, if_neg (show ¬ (4 : Int32) ≤ nI k from nI_ge hk (by decide)), hc k hk, ob_some, if_pos rfl, ob_some, show (1 : Int32) = nI 1 from rfl, nI_add, ob_some]
  · intro n k hk e
    rw [f_X6_kinship_L90, if_neg (show ¬ (4 : Int32) ≤ nI k from nI_ge hk (by decide)), hc k hk, ob_some, if_neg ne10, s_letters hF h hr hk, ob_some, if_pos (by rw [e]), ob_some, show (1 : Int32) = nI 1 from rfl, nI_add, ob_some]
  · intro n k hk e
    have b1 := letC_le S.1 k
    have b2 := letC_le q k
    rw [f_X6_kinship_L90, if_neg (show ¬ (4 : Int32) ≤ nI k from nI_ge hk (by decide)), hc k hk, ob_some, if_neg ne10, s_letters hF h hr hk, ob_some, if_neg (nIlit (by omega) (by omega) (fun z => e z.symm)), ob_some, show (1 : Int32) = nI 1 from rfl, nI_add, ob_some]
theorem okN_01 (k : Nat) (r : List Nat) (t : Nat → Nat) (q : List Nat) : okN k r t q = 0 ∨ okN k r t q = 1 := by
  unfold okN
  split
  · exact Or.inr rfl
  · by_cases e : SP r q
    · rw [if_pos e]; exact Or.inr rfl
    · rw [if_neg e]; exact Or.inl rfl
  · by_cases e : SP r q ∧ gl r 0 = gl q 0
    · rw [if_pos e]; exact Or.inr rfl
    · rw [if_neg e]; exact Or.inl rfl
  · by_cases e : SC t r q
    · rw [if_pos e]; exact Or.inr rfl
    · rw [if_neg e]; exact Or.inl rfl
theorem st_kinship {F : Nat} (hF : 1100000 ≤ F) {x_pastStates : Int32} {x_now_row : Int32} {x_now_table : Int32} {x_now_kept : Int32} {x_now_book : Nat → Int32} {x_text_length : Int32} {x_text_signs : Nat → Int32} {p0_row : Int32} {p0_table : Int32} {p0_kept : Int32} {p0_book : Nat → Int32} {p1_row : Int32} {p1_table : Int32} {p1_kept : Int32} {p1_book : Nat → Int32} {p2_row : Int32} {p2_table : Int32} {p2_kept : Int32} {p2_book : Nat → Int32} {p3_row : Int32} {p3_table : Int32} {p3_kept : Int32} {p3_book : Nat → Int32} {m_pasts : Int32} {m_runs0 : Int32} {m_typed : Int32} {m_s : Nat → Int32} {m_past : Nat → Int32} {m_text : Nat → Int32} (h : Rel x_pastStates x_now_row x_now_table x_now_kept x_now_book x_text_length x_text_signs p0_row p0_table p0_kept p0_book p1_row p1_table p1_kept p1_book p2_row p2_table p2_kept p2_book p3_row p3_table p3_kept p3_book m_pasts m_runs0 m_typed m_s m_past m_text) (m_now : Nat → Int32) (m_kept : Nat → Int32) (a1 : Int32) : ∃ rx rm, f_X5_kinship F x_now_row x_now_table x_now_kept x_now_book a1 = some rx ∧ f_X6_kinship F m_s m_now m_kept a1 = some rm ∧ rx = rm.1 ∧ Rel x_pastStates x_now_row x_now_table x_now_kept x_now_book x_text_length x_text_signs p0_row p0_table p0_kept p0_book p1_row p1_table p1_kept p1_book p2_row p2_table p2_kept p2_book p3_row p3_table p3_kept p3_book m_pasts m_runs0 m_typed m_s m_past m_text := by
  obtain ⟨⟨r, t, bk⟩, hs, tx, hC, hM, hH, hHM, rfl, hT⟩ := h
  have hr : RowOk r := hC.2.1
  have hrl := hr.1
  have e3 : x_now_row = encR r := hC.1
  have e4 : m_s 0 = nI r.length := hM.1
  have ek : x_now_kept = nI bk.length := hC.2.2.2.1
  have e27 : m_s 27 = nI bk.length := hM.2.2.2.1
  have h8 : bk.length ≤ 8 := hC.2.2.2.2.1
  have htab : TabC x_now_table t := hC.2.2.1
  have hR : Rel x_pastStates x_now_row x_now_table x_now_kept x_now_book x_text_length x_text_signs p0_row p0_table p0_kept p0_book p1_row p1_table p1_kept p1_book p2_row p2_table p2_kept p2_book p3_row p3_table p3_kept p3_book m_pasts 0 m_typed m_s m_past m_text := ⟨(r, t, bk), hs, tx, hC, hM, hH, hHM, rfl, hT⟩
  by_cases h0 : 0 ≤ a1
  · obtain ⟨p, hp, rfl⟩ := nI_of (Int32.not_lt.mpr h0)
    by_cases h1 : p < bk.length
    · obtain ⟨q, hq⟩ : ∃ q, bk[p]? = some q := ⟨_, List.getElem?_eq_getElem h1⟩
      obtain ⟨eq1, hqr⟩ := hC.2.2.2.2.2 p q hq
      obtain ⟨g1, g2⟩ := hM.2.2.2.2 p q hq
      have hql := hqr.1
      have ecl : f_X5_kinship F x_now_row x_now_table x_now_kept x_now_book (nI p) = (f_X5_kinship_L32 F (encR r) x_now_table (encR q) F (0 : Int32)).bind fun e4 => Sum.elim (fun ax11 => (rd 4 ko_f ax11).bind fun v19 => some v19) (fun _ => some (-1000004 : Int32)) e4 := by
        unfold f_X5_kinship f_X1_keptRow
        rw [if_pos h0, ek, if_pos (nI_lt h1 (by omega)), if_neg (nI_pos (by omega)), if_neg (show ¬ (8 : Int32) ≤ nI p from nI_ge (b := 8) (by omega) (by decide)), rd_ok _ (by omega) (by decide), ob_some, ob_some, ob_some, eq1, e3]
      have kst : ∀ n k kk : Nat, k < 4 → kk < 4 → ko_f k = nI kk → f_X5_kinship_L32 F (encR r) x_now_table (encR q) (n + 1) (nI k) = if (if SL r q then okN kk r t q else 0) = 0 then f_X5_kinship_L32 F (encR r) x_now_table (encR q) n (nI (k + 1)) else some (Sum.inl (nI k)) := by
        intro n k kk hk hkk e
        rw [f_X5_kinship_L32, if_neg (show ¬ (4 : Int32) ≤ nI k from nI_ge hk (by decide)), rd_ok _ hk (by decide), ob_some, e, s_isShuffle hF htab hr hqr hkk, ob_some]
        by_cases z : (if SL r q then okN kk r t q else 0) = 0
        · rw [if_pos (by rw [z]; rfl), if_pos z, show (1 : Int32) = nI 1 from rfl, nI_add, ob_some]
        · have z2 : (if SL r q then okN kk r t q else 0) < 2 ^ 31 := by
            by_cases y : SL r q
            · rw [if_pos y]
              rcases okN_01 kk r t q with w | w <;> omega
            · rw [if_neg y]; decide
          rw [if_neg (show ¬ nI (if SL r q then okN kk r t q else 0) = (0 : Int32) from nIlit (m := 0) z2 (by decide) z), if_neg z]
      obtain ⟨m4, rfl⟩ : ∃ m, F = m + 5 := ⟨F - 5, by omega⟩
      by_cases hsl : SL r q
      · have hlen : q.length = r.length := by
          have a1 := letC_sum hr.2
          have a2 := letC_sum hqr.2
          have b0 := hsl 0 (by decide)
          have b1 := hsl 1 (by decide)
          have b2 := hsl 2 (by decide)
          have b3 := hsl 3 (by decide)
          omega
        obtain ⟨now1, kept1, eb, -, hk⟩ := s_begin hF hM hr m_now m_kept
        obtain ⟨now2, e50, hv⟩ := s_kin50 hF hM (p := p) (by omega) g2 hqr hlen now1
        have e90 := s_kin90 hF hM hr hv hlen
        have io := fun k (hk4 : k < 4) => s_isOne hF hM hr (fun k hk => (htab k hk).2) hv hlen hk (k := k) hk4
        have hcl : (f_X5_kinship_L32 (m4 + 5) (encR r) x_now_table (encR q) (m4 + 5) (0 : Int32)) = some (Sum.inl (if okN 2 r t q = 0 then if okN 1 r t q = 0 then if okN 3 r t q = 0 then nI 3 else nI 2 else nI 1 else nI 0)) := by
          show f_X5_kinship_L32 (m4 + 5) (encR r) x_now_table (encR q) (m4 + 4 + 1) (nI 0) = _
          rw [kst (m4 + 4) 0 2 (by decide) (by decide) rfl, kst (m4 + 3) 1 1 (by decide) (by decide) rfl, kst (m4 + 2) 2 3 (by decide) (by decide) rfl, kst (m4 + 1) 3 0 (by decide) (by decide) rfl]
          simp only [if_pos hsl]
          rw [if_neg (show ¬ okN 0 r t q = 0 from by show ¬ 1 = 0; decide)]
          by_cases z2 : okN 2 r t q = 0
          · rw [if_pos z2, if_pos z2]
            by_cases z1 : okN 1 r t q = 0
            · rw [if_pos z1, if_pos z1]
              by_cases z3 : okN 3 r t q = 0
              · rw [if_pos z3, if_pos z3]
              · rw [if_neg z3, if_neg z3]
            · rw [if_neg z1, if_neg z1]
          · rw [if_neg z2, if_neg z2]
        have c0 : ∀ k, nI (okN k r t q) = (0 : Int32) ↔ okN k r t q = 0 := by
          intro k
          rcases okN_01 k r t q with w | w
          · rw [w]; exact ⟨fun _ => rfl, fun _ => rfl⟩
          · rw [w]; exact ⟨fun z => absurd z ne10, fun z => absurd z (by decide)⟩
        apply mkst
        · rw [ecl, hcl, ob_some]
          show ((rd 4 ko_f (if okN 2 r t q = 0 then if okN 1 r t q = 0 then if okN 3 r t q = 0 then nI 3 else nI 2 else nI 1 else nI 0)).bind fun v19 => some v19) = some (if okN 2 r t q = 0 then if okN 1 r t q = 0 then if okN 3 r t q = 0 then (0 : Int32) else 3 else 1 else 2)
          by_cases z2 : okN 2 r t q = 0
          · rw [if_pos z2, if_pos z2]
            by_cases z1 : okN 1 r t q = 0
            · rw [if_pos z1, if_pos z1]
              by_cases z3 : okN 3 r t q = 0
              · rw [if_pos z3, if_pos z3]; rfl
              · rw [if_neg z3, if_neg z3]; rfl
            · rw [if_neg z1, if_neg z1]; rfl
          · rw [if_neg z2, if_neg z2]; rfl
        · unfold f_X6_kinship
          rw [if_pos h0, show rd 116 m_s (27 : Int32) = some (m_s 27) from rd_ok (i := 27) _ (by decide) (by decide), ob_some, e27, if_neg (nI_ge h1 (by omega)), show (11 : Int32) = nI 11 from rfl, nI_mul, show (28 : Int32) = nI 28 from rfl, nI_add, rd_ok _ (by omega) (by decide), ob_some, rd0 _ (by decide) (by decide), ob_some, g1, e4, hlen, if_pos rfl, eb, ob_some, e50, ob_some, e90, ob_some, if_neg (fun z => (i10 _).mp z hsl)]
          have w2 := io 2 (by decide)
          have w1 := io 1 (by decide)
          have w3 := io 3 (by decide)
          have w2' : f_X6_isOne (m4 + 5) m_s now2 kept1 (2 : Int32) = some (nI (okN 2 r t q)) := w2
          have w1' : f_X6_isOne (m4 + 5) m_s now2 kept1 (1 : Int32) = some (nI (okN 1 r t q)) := w1
          have w3' : f_X6_isOne (m4 + 5) m_s now2 kept1 (3 : Int32) = some (nI (okN 3 r t q)) := w3
          rw [w2', ob_some, w1', ob_some, w3', ob_some, show (if nI (okN 2 r t q) = 0 then if nI (okN 1 r t q) = 0 then if nI (okN 3 r t q) = 0 then some (0 : Int32) else some 3 else some 1 else some 2) = some (if okN 2 r t q = 0 then if okN 1 r t q = 0 then if okN 3 r t q = 0 then (0 : Int32) else 3 else 1 else 2) from ?_, ob_some]
          by_cases z2 : okN 2 r t q = 0
          · rw [if_pos ((c0 2).mpr z2), if_pos z2]
            by_cases z1 : okN 1 r t q = 0
            · rw [if_pos ((c0 1).mpr z1), if_pos z1]
              by_cases z3 : okN 3 r t q = 0
              · rw [if_pos ((c0 3).mpr z3), if_pos z3]
              · rw [if_neg (fun z => z3 ((c0 3).mp z)), if_neg z3]
            · rw [if_neg (fun z => z1 ((c0 1).mp z)), if_neg z1]
          · rw [if_neg (fun z => z2 ((c0 2).mp z)), if_neg z2]
        · exact ⟨rfl, hR⟩
      · have hcl : (f_X5_kinship_L32 (m4 + 5) (encR r) x_now_table (encR q) (m4 + 5) (0 : Int32)) = some (Sum.inr ()) := by
          show f_X5_kinship_L32 (m4 + 5) (encR r) x_now_table (encR q) (m4 + 4 + 1) (nI 0) = _
          rw [kst (m4 + 4) 0 2 (by decide) (by decide) rfl, kst (m4 + 3) 1 1 (by decide) (by decide) rfl, kst (m4 + 2) 2 3 (by decide) (by decide) rfl, kst (m4 + 1) 3 0 (by decide) (by decide) rfl]
          simp only [if_neg hsl, if_pos]
          rw [f_X5_kinship_L32, if_pos (show (4 : Int32) ≤ nI 4 from nI_le (a := 4) (b := 4) (by omega) (by decide))]
        by_cases hlen : q.length = r.length
        · obtain ⟨now1, kept1, eb, -, hk⟩ := s_begin hF hM hr m_now m_kept
          obtain ⟨now2, e50, hv⟩ := s_kin50 hF hM (p := p) (by omega) g2 hqr hlen now1
          have e90 := s_kin90 hF hM hr hv hlen
          apply mkst
          · rw [ecl, hcl, ob_some]
            rfl
          · unfold f_X6_kinship
            rw [if_pos h0, show rd 116 m_s (27 : Int32) = some (m_s 27) from rd_ok (i := 27) _ (by decide) (by decide), ob_some, e27, if_neg (nI_ge h1 (by omega)), show (11 : Int32) = nI 11 from rfl, nI_mul, show (28 : Int32) = nI 28 from rfl, nI_add, rd_ok _ (by omega) (by decide), ob_some, rd0 _ (by decide) (by decide), ob_some, g1, e4, hlen, if_pos rfl, eb, ob_some, e50, ob_some, e90, ob_some, if_pos ((i10 _).mpr hsl), ob_some]
          · exact ⟨rfl, hR⟩
        · apply mkst
          · rw [ecl, hcl, ob_some]
            rfl
          · unfold f_X6_kinship
            rw [if_pos h0, show rd 116 m_s (27 : Int32) = some (m_s 27) from rd_ok (i := 27) _ (by decide) (by decide), ob_some, e27, if_neg (nI_ge h1 (by omega)), show (11 : Int32) = nI 11 from rfl, nI_mul, show (28 : Int32) = nI 28 from rfl, nI_add, rd_ok _ (by omega) (by decide), ob_some, rd0 _ (by decide) (by decide), ob_some, g1, e4, if_neg (nIlit (by omega) (by omega) hlen)]
          · exact ⟨rfl, hR⟩
    · apply mkst
      · unfold f_X5_kinship
        rw [if_pos h0, ek, if_neg (nI_nlt (by omega) hp)]
      · unfold f_X6_kinship
        rw [if_pos h0, show rd 116 m_s (27 : Int32) = some (m_s 27) from rd_ok (i := 27) _ (by decide) (by decide), ob_some, e27, if_pos (nI_le (by omega) hp)]
      · exact ⟨rfl, hR⟩
  · apply mkst
    · unfold f_X5_kinship; rw [if_neg h0]
    · unfold f_X6_kinship; rw [if_neg h0]
    · exact ⟨rfl, hR⟩
