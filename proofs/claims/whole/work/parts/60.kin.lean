-- the reference: its first arrangement, and which arrangement keeps what
def srtTo (r : List Nat) : Nat → List Nat
  | 0 => []
  | x + 1 => srtTo r x ++ List.replicate (letC r x) x
theorem letC_sum {r : List Nat} (h : ∀ x ∈ r, x < 4) : letC r 0 + letC r 1 + letC r 2 + letC r 3 = r.length := by
  have key : ∀ (d k : Nat), sumF (fun i => if gl r i = 0 then 1 else 0) k d + sumF (fun i => if gl r i = 1 then 1 else 0) k d + sumF (fun i => if gl r i = 2 then 1 else 0) k d + sumF (fun i => if gl r i = 3 then 1 else 0) k d = d := by
    intro d
    induction d with
    | zero => intro k; rfl
    | succ d ih =>
      intro k
      have h5 := ih (k + 1)
      have g := gl_lt h k
      show ((if gl r k = 0 then 1 else 0) + sumF _ (k + 1) d) + ((if gl r k = 1 then 1 else 0) + sumF _ (k + 1) d) + ((if gl r k = 2 then 1 else 0) + sumF _ (k + 1) d) + ((if gl r k = 3 then 1 else 0) + sumF _ (k + 1) d) = d + 1
      have h6 : (if gl r k = 0 then 1 else 0) + (if gl r k = 1 then 1 else 0) + (if gl r k = 2 then 1 else 0) + (if gl r k = 3 then 1 else 0) = 1 := by
        rcases (show gl r k = 0 ∨ gl r k = 1 ∨ gl r k = 2 ∨ gl r k = 3 by omega) with e | e | e | e <;> rw [e] <;> rfl
      omega
  exact key r.length 0
theorem srtTo_len (r : List Nat) : ∀ x, (srtTo r x).length = sumF (letC r) 0 x
  | 0 => rfl
  | x + 1 => by
    have e : ∀ (d k : Nat) (f : Nat → Nat), sumF f k (d + 1) = sumF f k d + f (k + d) := by
      intro d
      induction d with
      | zero => intro k f; show f k + 0 = 0 + f k; omega
      | succ d ih =>
        intro k f
        show f k + sumF f (k + 1) (d + 1) = (f k + sumF f (k + 1) d) + f (k + (d + 1))
        rw [ih (k + 1) f, show k + 1 + d = k + (d + 1) by omega, Nat.add_assoc]
    show (srtTo r x ++ List.replicate (letC r x) x).length = _
    rw [List.length_append, List.length_replicate, srtTo_len r x, e, Nat.zero_add]
theorem srt_len {r : List Nat} (h : ∀ x ∈ r, x < 4) : (srtTo r 4).length = r.length := by
  have := letC_sum h
  rw [srtTo_len]
  show letC r 0 + (letC r 1 + (letC r 2 + (letC r 3 + 0))) = _
  omega
theorem srt_mono (r : List Nat) {x : Nat} : ∀ d, (srtTo r x).length ≤ (srtTo r (x + d)).length
  | 0 => Nat.le_refl _
  | d + 1 => by
    refine Nat.le_trans (srt_mono r d) ?_
    show _ ≤ (srtTo r (x + d) ++ List.replicate (letC r (x + d)) (x + d)).length
    rw [List.length_append]
    omega
def Nw (now : Nat → Int32) (q : List Nat) : Prop := ∀ i, i < q.length → now (0 + i) = nI (gl q i) ∧ gl q i < 4
theorem Nw.snoc {now : Nat → Int32} {q : List Nat} (h : Nw now q) {x : Nat} (hx : x < 4) : Nw (upd now q.length (nI x)) (q ++ [x]) := by
  intro i hi
  rw [List.length_append] at hi
  have hi : i < q.length + 1 := hi
  by_cases e : i = q.length
  · subst e
    rw [Nat.zero_add, upd_s, gl_last]
    exact ⟨rfl, hx⟩
  · rw [upd_n _ _ (by omega), gl_snoc (by omega)]
    exact h i (by omega)
theorem s_begin11 {F : Nat} (hF : 1100000 ≤ F) {s : Nat → Int32} {S : AS} (h : StM s S) (hr : RowOk S.1) {x : Nat} (hx : x < 4) : ∀ (d n j : Nat) (q : List Nat) (now : Nat → Int32), j + d = letC S.1 x → d < n → q.length + d ≤ 10 → Nw now q → ∃ now', f_X6_begin_L11 F s (nI x) n (nI q.length) (nI j) now = some (nI (q.length + d), now') ∧ Nw now' (q ++ List.replicate d x) := by
  have hl := hr.1
  have hle := letC_le S.1 x
  intro d
  induction d with
  | zero =>
    intro n j q now hj hn h10 hq
    obtain ⟨m, rfl⟩ : ∃ m, n = m + 1 := ⟨n - 1, by omega⟩
    refine ⟨now, ?_, by rw [List.replicate_zero, List.append_nil]; exact hq⟩
    rw [f_X6_begin_L11, s_letters hF h hr hx, ob_some, if_pos (nI_le (by omega) (by omega))]
    rfl
  | succ d ih =>
    intro n j q now hj hn h10 hq
    obtain ⟨m, rfl⟩ : ∃ m, n = m + 1 := ⟨n - 1, by omega⟩
    have e1 : (q ++ [x]).length = q.length + 1 := by rw [List.length_append]; rfl
    obtain ⟨now', e, p⟩ := ih m (j + 1) (q ++ [x]) _ (by omega) (by omega) (by omega) (hq.snoc hx)
    rw [e1, show q.length + 1 + d = q.length + (d + 1) by omega] at e
    refine ⟨now', ?_, ?_⟩
    · rw [f_X6_begin_L11, s_letters hF h hr hx, ob_some, if_neg (nI_ge (by omega) (by omega)), wr_ok _ _ (by omega) (by decide), ob_some, show (1 : Int32) = nI 1 from rfl, nI_add, ob_some, nI_add, ob_some]
      exact e
    · rw [List.append_assoc] at p
      exact p
theorem s_begin {F : Nat} (hF : 1100000 ≤ F) {s : Nat → Int32} {S : AS} (h : StM s S) (hr : RowOk S.1) (now kept : Nat → Int32) : ∃ now' kept', f_X6_begin F s now kept = some (now', kept') ∧ Nw now' (srtTo S.1 4) ∧ ∀ k, k < 16 → kept' k = nI (pc S.1 k) := by
  have hl := hr.1
  have h4 := srt_len hr.2
  have k1 : ∀ (d n x : Nat) (now : Nat → Int32), x + d = 4 → d < n → Nw now (srtTo S.1 x) → ∃ now', f_X6_begin_L4 F s n (nI (srtTo S.1 x).length) (nI x) now = some now' ∧ Nw now' (srtTo S.1 4) := by
    intro d
    induction d with
    | zero =>
      intro n x now hx hn hq
      obtain ⟨m, rfl⟩ : ∃ m, n = m + 1 := ⟨n - 1, by omega⟩
      obtain rfl : x = 4 := by omega
      exact ⟨now, by rw [f_X6_begin_L4, if_pos (show (4 : Int32) ≤ nI 4 from nI_le (a := 4) (b := 4) (by omega) (by decide))], hq⟩
    | succ d ih =>
      intro n x now hx hn hq
      obtain ⟨m, rfl⟩ : ∃ m, n = m + 1 := ⟨n - 1, by omega⟩
      have hle := letC_le S.1 x
      have hm := srt_mono S.1 (x := x + 1) d
      rw [show x + 1 + d = 4 by omega] at hm
      have hq1 : (srtTo S.1 (x + 1)).length = (srtTo S.1 x).length + letC S.1 x := by
        show (srtTo S.1 x ++ List.replicate (letC S.1 x) x).length = _
        rw [List.length_append, List.length_replicate]
      obtain ⟨now1, e, p⟩ := s_begin11 hF h hr (show x < 4 by omega) (letC S.1 x) F 0 (srtTo S.1 x) now (by omega) (by omega) (by omega) hq
      obtain ⟨now2, e2, p2⟩ := ih m (x + 1) now1 (by omega) (by omega) p
      refine ⟨now2, ?_, p2⟩
      rw [hq1] at e2
      have e' : f_X6_begin_L11 F s (nI x) F (nI (srtTo S.1 x).length) (0 : Int32) now = _ := e
      rw [f_X6_begin_L4, if_neg (show ¬ (4 : Int32) ≤ nI x from nI_ge (show x < 4 by omega) (by decide)), e', ob_some, show (1 : Int32) = nI 1 from rfl, nI_add, ob_some]
      exact e2
  obtain ⟨now', e, p⟩ := k1 4 F 0 now (by omega) (by omega) (fun i hi => absurd hi (by show ¬ i < 0; omega))
  have e' : f_X6_begin_L4 F s F (0 : Int32) (0 : Int32) now = some now' := e
  have k2 := loop_fill0 (Lp := f_X6_begin_L44 F s) (N := 16) (a := 0) (h := fun k => nI (pc S.1 k)) kept ?_ ?_ (n := F) (by omega)
  · refine ⟨now', (fun j => if 0 ≤ j ∧ j < 0 + 16 then nI (pc S.1 (j - 0)) else kept j), ?_, p, ?_⟩
    · unfold f_X6_begin
      rw [e', ob_some, k2, ob_some]
    · intro k hk
      dsimp only
      rw [if_pos (by omega), Nat.sub_zero]
  · intro n g
    rw [f_X6_begin_L44, if_pos (show (16 : Int32) ≤ nI 16 from nI_le (a := 16) (b := 16) (by omega) (by decide))]
  · intro n k g hk hg
    rw [f_X6_begin_L44, if_neg (show ¬ (16 : Int32) ≤ nI k from nI_ge hk (by decide)), s_pairs hF h hr hk, ob_some, wr_ok _ _ hk (by decide), ob_some, show (1 : Int32) = nI 1 from rfl, nI_add, ob_some, Nat.zero_add]
theorem s_keepsPairs {F : Nat} (hF : 1100000 ≤ F) {s : Nat → Int32} {S : AS} (h : StM s S) (hr : RowOk S.1) {now kept : Nat → Int32} {q : List Nat} (hv : Nw now q) (hq : q.length = S.1.length) (hk : ∀ k, k < 16 → kept k = nI (pc S.1 k)) : f_X6_keepsPairs F s now kept = some (nI (if SP S.1 q then 1 else 0)) := by
  have hl := hr.1
  have hof : ∀ k, k < 16 → f_X6_often F 10 now (0 : Int32) (nI S.1.length) (nI k) = some (nI (pc q k)) := by
    intro k hk
    rw [← hq]
    exact s_often hF (from_ := 0) (g := gl q) (by omega) (by decide) (by omega) hv hk
  have key := loop_allM (Lp := f_X6_keepsPairs_L4 F s now kept) (N := 16) (P := fun p => pc S.1 p = pc q p) nI ?_ ?_ ?_ ?_ (n := F) (by omega)
  · have key' : f_X6_keepsPairs_L4 F s now kept F (1 : Int32) (0 : Int32) = some (nI (if SP S.1 q then 1 else 0)) := key
    unfold f_X6_keepsPairs
    rw [key', ob_some]
    by_cases e : SP S.1 q
    · rw [if_pos e]; rfl
    · rw [if_neg e]; rfl
  · intro n u
    rw [f_X6_keepsPairs_L4, if_pos (show (16 : Int32) ≤ nI 16 from nI_le (a := 16) (b := 16) (by omega) (by decide))]
  · intro n k hk
    left
    rw [f_X6_keepsPairs_L4, if_neg (show ¬ (16 : Int32) ≤ nI k from nI_ge hk (by decide)), if_pos rfl]
  · intro n k hk1 e
    rw [f_X6_keepsPairs_L4, if_neg (show ¬ (16 : Int32) ≤ nI k from nI_ge hk1 (by decide)), if_neg ne10, rd0 _ (by decide) (by decide), ob_some, h.1, hof k hk1, ob_some, rd_ok _ hk1 (by decide), ob_some, hk k hk1, if_pos (by rw [e]), ob_some, show (1 : Int32) = nI 1 from rfl, nI_add, ob_some]
  · intro n k hk1 e
    have b1 := pc_le S.1 k
    have b2 := pc_le q k
    rw [f_X6_keepsPairs_L4, if_neg (show ¬ (16 : Int32) ≤ nI k from nI_ge hk1 (by decide)), if_neg ne10, rd0 _ (by decide) (by decide), ob_some, h.1, hof k hk1, ob_some, rd_ok _ hk1 (by decide), ob_some, hk k hk1, if_neg (nIlit (by omega) (by omega) (fun z => e z.symm)), ob_some, show (1 : Int32) = nI 1 from rfl, nI_add, ob_some]
theorem s_keepsCodes {F : Nat} (hF : 1100000 ≤ F) {s : Nat → Int32} {S : AS} (h : StM s S) (hr : RowOk S.1) (ht : ∀ k, k < 16 → S.2.1 k < 4) {now : Nat → Int32} {q : List Nat} (hv : Nw now q) (hq : q.length = S.1.length) : f_X6_keepsCodes F s now = some (nI (if SC S.2.1 S.1 q then 1 else 0)) := by
  have hl := hr.1
  have c1 : ∀ k, k < S.1.length / 2 → f_X6_codeAt_m_now F s now (0 : Int32) (nI k) = some (nI (S.2.1 (4 * gl q (2 * k) + gl q (2 * k + 1)))) := fun k hk => s_codeAt_m_now h (fr := 0) (g := gl q) (n := q.length) (by omega) hv (by omega)
  have c2 : ∀ k, k < S.1.length / 2 → f_X6_codeAt_m_s F s (1 : Int32) (nI k) = some (nI (S.2.1 (4 * gl S.1 (2 * k) + gl S.1 (2 * k + 1)))) := fun k hk => s_codeAt_m_s h (fr := 1) (g := gl S.1) (n := S.1.length) (by omega) (fun i hi => ⟨h.2.1 i hi, gl_lt hr.2 i⟩) (by omega)
  have key := loop_allM (Lp := f_X6_keepsCodes_L4 F s now) (N := S.1.length / 2) (P := fun j => S.2.1 (4 * gl S.1 (2 * j) + gl S.1 (2 * j + 1)) = S.2.1 (4 * gl q (2 * j) + gl q (2 * j + 1))) nI ?_ ?_ ?_ ?_ (n := F) (by omega)
  · have key' : f_X6_keepsCodes_L4 F s now F (1 : Int32) (0 : Int32) = some (nI (if SC S.2.1 S.1 q then 1 else 0)) := key
    unfold f_X6_keepsCodes
    rw [key', ob_some]
    by_cases e : SC S.2.1 S.1 q
    · rw [if_pos e]; rfl
    · rw [if_neg e]; rfl
  · intro n u
    rw [f_X6_keepsCodes_L4, rd0 _ (by decide) (by decide), ob_some, h.1, show (2 : Int32) = nI 2 from rfl, nI_div (by omega) (by decide) (by decide), if_pos (nI_le (Nat.le_refl _) (by omega))]
  · intro n k hk
    left
    rw [f_X6_keepsCodes_L4, rd0 _ (by decide) (by decide), ob_some, h.1, show (2 : Int32) = nI 2 from rfl, nI_div (by omega) (by decide) (by decide), if_neg (nI_ge hk (by omega)), if_pos rfl]
  · intro n k hk e
    rw [f_X6_keepsCodes_L4, rd0 _ (by decide) (by decide), ob_some, h.1, show (2 : Int32) = nI 2 from rfl, nI_div (by omega) (by decide) (by decide), if_neg (nI_ge hk (by omega)), if_neg ne10, c1 k hk, ob_some, c2 k hk, ob_some, if_pos (by rw [e]), ob_some, show (1 : Int32) = nI 1 from rfl, nI_add, ob_some]
  · intro n k hk e
    have g1 := gl_lt hr.2 (2 * k)
    have g2 := gl_lt hr.2 (2 * k + 1)
    have g3 := (hv (2 * k) (by omega)).2
    have g4 := (hv (2 * k + 1) (by omega)).2
    have b1 := ht (4 * gl S.1 (2 * k) + gl S.1 (2 * k + 1)) (by omega)
    have b2 := ht (4 * gl q (2 * k) + gl q (2 * k + 1)) (by omega)
    rw [f_X6_keepsCodes_L4, rd0 _ (by decide) (by decide), ob_some, h.1, show (2 : Int32) = nI 2 from rfl, nI_div (by omega) (by decide) (by decide), if_neg (nI_ge hk (by omega)), if_neg ne10, c1 k hk, ob_some, c2 k hk, ob_some, if_neg (nIlit (by omega) (by omega) (fun z => e z.symm)), ob_some, show (1 : Int32) = nI 1 from rfl, nI_add, ob_some]
theorem s_isOne {F : Nat} (hF : 1100000 ≤ F) {s : Nat → Int32} {S : AS} (h : StM s S) (hr : RowOk S.1) (ht : ∀ k, k < 16 → S.2.1 k < 4) {now kept : Nat → Int32} {q : List Nat} (hv : Nw now q) (hq : q.length = S.1.length) (hk : ∀ k, k < 16 → kept k = nI (pc S.1 k)) {k : Nat} (hk4 : k < 4) : f_X6_isOne F s now kept (nI k) = some (nI (okN k S.1 S.2.1 q)) := by
  have hl := hr.1
  unfold f_X6_isOne
  rcases (show k = 0 ∨ k = 1 ∨ k = 2 ∨ k = 3 by omega) with rfl | rfl | rfl | rfl
  · rfl
  · rw [if_neg (show ¬ nI 1 = (0 : Int32) from ne10), if_neg (show ¬ nI 1 = (3 : Int32) by decide), if_pos (show nI 1 = (1 : Int32) from rfl), s_keepsPairs hF h hr hv hq hk, ob_some, bI, ob_some]
    show _ = some (nI (if SP S.1 q then 1 else 0))
    by_cases e : SP S.1 q
    · rw [if_pos e]; rfl
    · rw [if_neg e]; rfl
  · rw [if_neg (show ¬ nI 2 = (0 : Int32) by decide), if_neg (show ¬ nI 2 = (3 : Int32) by decide), if_neg (show ¬ nI 2 = (1 : Int32) by decide), rd0 _ (by decide) (by decide), ob_some, h.1, s_keepsPairs hF h hr hv hq hk, ob_some, bI]
    show _ = some (nI (if SP S.1 q ∧ gl S.1 0 = gl q 0 then 1 else 0))
    by_cases e0 : S.1.length = 0
    · have e1 : S.1 = [] := List.length_eq_zero_iff.mp e0
      have e2 : q = [] := List.length_eq_zero_iff.mp (by omega)
      rw [if_pos (show nI S.1.length = (0 : Int32) by rw [e0]; rfl), ob_some]
      by_cases e : SP S.1 q
      · rw [if_pos e, if_pos ⟨e, by rw [e1, e2]⟩]; rfl
      · rw [if_neg e, if_neg (fun z => e z.1)]; rfl
    · have g1 := gl_lt hr.2 0
      obtain ⟨v1, g2⟩ := hv 0 (by omega)
      rw [if_neg (show ¬ nI S.1.length = (0 : Int32) from nIlit (m := 0) (by omega) (by decide) e0), rd0 _ (by decide) (by decide), ob_some, show (1 : Int32) = nI 1 from rfl, rd_ok _ (by decide) (by decide), ob_some, show s 1 = nI (gl S.1 0) from h.2.1 0 (by omega), show now 0 = nI (gl q 0) from v1]
      by_cases e2 : gl S.1 0 = gl q 0
      · rw [if_pos (by rw [e2]), ob_some]
        by_cases e : SP S.1 q
        · rw [if_pos e, if_pos ⟨e, e2⟩]; rfl
        · rw [if_neg e, if_neg (fun z => e z.1)]; rfl
      · rw [if_neg (nIlit (by omega) (by omega) (fun z => e2 z.symm)), if_neg (fun z => e2 z.2)]; rfl
  · rw [if_neg (show ¬ nI 3 = (0 : Int32) by decide), if_pos (show nI 3 = (3 : Int32) from rfl), s_keepsCodes hF h hr ht hv hq, ob_some]
    show _ = some (nI (if SC S.2.1 S.1 q then 1 else 0))
    by_cases e : SC S.2.1 S.1 q
    · rw [if_pos e]; rfl
    · rw [if_neg e]; rfl
