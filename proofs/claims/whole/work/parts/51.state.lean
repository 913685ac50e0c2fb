theorem lI (n : Nat) : (OfNat.ofNat n : Int32) = nI n := rfl
theorem rd_ok {n i : Nat} (f : Nat → Int32) (h : i < n) (hn : n < 2 ^ 31) : rd n f (nI i) = some (f i) := by
  unfold rd
  rw [if_neg (nI_in h hn), nI_clamp (by omega)]
theorem wr_ok {n i : Nat} (f : Nat → Int32) (x : Int32) (h : i < n) (hn : n < 2 ^ 31) : wr n f (nI i) x = some (upd f i x) := by
  unfold wr
  rw [if_neg (nI_in h hn), nI_clamp (by omega)]
theorem ckz0 : ckz (0 : Int32) = some () := rfl
theorem ckz1 : ckz (1 : Int32) = some () := rfl
theorem upd_s (f : Nat → Int32) (k : Nat) (x : Int32) : upd f k x k = x := if_pos rfl
theorem upd_n (f : Nat → Int32) {k j : Nat} (x : Int32) (h : j ≠ k) : upd f k x j = f j := if_neg h
-- an int in a range 0 .. m, or not
theorem in_rng {x : Int32} {m : Nat} (hm : m < 2 ^ 31) (h0 : ¬ x < 0) (h1 : ¬ nI m < x) : ∃ j : Nat, j ≤ m ∧ x = nI j := by
  obtain ⟨j, hj, rfl⟩ := nI_of h0
  exact ⟨j, by have := mt (nI_ltI hm hj).mpr h1; omega, rfl⟩
theorem w_cases (F : Nat) (x : Int32) {m : Nat} (hm : m < 2 ^ 31) : (f_X5_within F x (nI m) = some 0 ∧ f_X6_in F x 0 (nI m) = some 0) ∨ (∃ j : Nat, j ≤ m ∧ x = nI j ∧ f_X5_within F x (nI m) = some 1 ∧ f_X6_in F x 0 (nI m) = some 1) := by
  unfold f_X5_within f_X6_in
  by_cases h0 : x < 0
  · left
    rw [if_pos h0]
    exact ⟨rfl, rfl⟩
  · rw [if_neg h0]
    by_cases h1 : nI m < x
    · left
      rw [if_pos h1]
      exact ⟨rfl, rfl⟩
    · right
      rw [if_neg h1]
      obtain ⟨j, h2, h3⟩ := in_rng hm h0 h1
      exact ⟨j, h2, h3, rfl, rfl⟩
theorem is4_of {F : Nat} {x : Int32} {v : Int32} (hv : v = 0 ∨ v = 1) (h : f_X6_in F x 0 3 = some v) : f_X6_is4 F x = some v := by
  unfold f_X6_is4
  rw [h, ob_some]
  rcases hv with rfl | rfl <;> rfl
theorem c4 (F : Nat) (x : Int32) : (f_X5_within F x 3 = some 0 ∧ f_X6_is4 F x = some 0) ∨ (∃ j : Nat, j < 4 ∧ x = nI j ∧ f_X5_within F x 3 = some 1 ∧ f_X6_is4 F x = some 1) := by
  rcases w_cases F x (m := 3) (by decide) with ⟨h1, h2⟩ | ⟨j, h0, h1, h2, h3⟩
  · exact Or.inl ⟨h1, is4_of (Or.inl rfl) h2⟩
  · exact Or.inr ⟨j, by omega, h1, h2, is4_of (Or.inr rfl) h3⟩
-- ===== the abstract state: a row, a table, a book
abbrev AS : Type := List Nat × (Nat → Nat) × List (List Nat)
def TabC (tb : Int32) (t : Nat → Nat) : Prop := ∀ k : Nat, k < 16 → ushr tb (nI (2 * k)) &&& 3 = nI (t k) ∧ t k < 4
def StC (row table kept : Int32) (book : Nat → Int32) (S : AS) : Prop := row = encR S.1 ∧ RowOk S.1 ∧ TabC table S.2.1 ∧ kept = nI S.2.2.length ∧ S.2.2.length ≤ 8 ∧ ∀ (j : Nat) (q : List Nat), S.2.2[j]? = some q → book j = encR q ∧ RowOk q
def StM (s : Nat → Int32) (S : AS) : Prop := s 0 = nI S.1.length ∧ (∀ i : Nat, i < S.1.length → s (1 + i) = nI (gl S.1 i)) ∧ (∀ k : Nat, k < 16 → s (11 + k) = nI (S.2.1 k)) ∧ s 27 = nI S.2.2.length ∧ ∀ (j : Nat) (q : List Nat), S.2.2[j]? = some q → s (28 + 11 * j) = nI q.length ∧ ∀ i : Nat, i < q.length → s (29 + 11 * j + i) = nI (gl q i)
def HiC (ps p0r p0t p0k : Int32) (p0b : Nat → Int32) (p1r p1t p1k : Int32) (p1b : Nat → Int32) (p2r p2t p2k : Int32) (p2b : Nat → Int32) (p3r p3t p3k : Int32) (p3b : Nat → Int32) (hs : List AS) : Prop :=
  ps = nI hs.length ∧ hs.length ≤ 4 ∧ (∀ S, hs[0]? = some S → StC p0r p0t p0k p0b S) ∧ (∀ S, hs[1]? = some S → StC p1r p1t p1k p1b S) ∧ (∀ S, hs[2]? = some S → StC p2r p2t p2k p2b S) ∧ (∀ S, hs[3]? = some S → StC p3r p3t p3k p3b S)
def HiM (ps : Int32) (past : Nat → Int32) (hs : List AS) : Prop := ps = nI hs.length ∧ ∀ (j : Nat) (S : AS), hs[j]? = some S → StM (fun k => past (116 * j + k)) S
def TxR (len : Int32) (signs : Nat → Int32) (typed : Int32) (text : Nat → Int32) (tx : List Nat) : Prop := len = nI tx.length ∧ typed = nI tx.length ∧ tx.length ≤ 60 ∧ ∀ i : Nat, i < tx.length → signs i = nI (gl tx i) ∧ text i = nI (gl tx i) ∧ 32 ≤ gl tx i ∧ gl tx i ≤ 126
theorem StM.cong {s s' : Nat → Int32} {S : AS} (h : StM s S) (hb : S.2.2.length ≤ 8) (hr : S.1.length ≤ 10) (hq : ∀ (j : Nat) (q : List Nat), S.2.2[j]? = some q → q.length ≤ 10) (e : ∀ k, k < 116 → s' k = s k) : StM s' S := by
  obtain ⟨h1, h2, h3, h4, h5⟩ := h
  refine ⟨by rw [e 0 (by decide)]; exact h1, fun i hi => by rw [e _ (by omega)]; exact h2 i hi, fun k hk => by rw [e _ (by omega)]; exact h3 k hk, by rw [e 27 (by decide)]; exact h4, fun j q hj => ?_⟩
  have hj8 : j < 8 := Nat.lt_of_lt_of_le (List.getElem?_eq_some_iff.mp hj).1 hb
  have hl := hq j q hj
  obtain ⟨g1, g2⟩ := h5 j q hj
  exact ⟨by rw [e _ (by omega)]; exact g1, fun i hi => by rw [e _ (by omega)]; exact g2 i hi⟩
def AOk (S : AS) : Prop := RowOk S.1 ∧ S.2.2.length ≤ 8 ∧ ∀ (j : Nat) (q : List Nat), S.2.2[j]? = some q → RowOk q
theorem StC.ok {row table kept : Int32} {book : Nat → Int32} {S : AS} (h : StC row table kept book S) : AOk S := ⟨h.2.1, h.2.2.2.2.1, fun j q hj => (h.2.2.2.2.2 j q hj).2⟩
-- the history grows
def push (hs : List AS) (S : AS) : List AS := if hs.length < 4 then hs ++ [S] else hs.tail ++ [S]
theorem push_len {hs : List AS} (h : hs.length ≤ 4) (S : AS) : (push hs S).length = if hs.length < 4 then hs.length + 1 else 4 := by
  unfold push
  by_cases h4 : hs.length < 4
  · rw [if_pos h4, if_pos h4, List.length_append]; rfl
  · rw [if_neg h4, if_neg h4, List.length_append, List.length_tail]
    show hs.length - 1 + 1 = 4
    omega
-- the reference's copies
theorem ch18 (F : Nat) (past : Nat → Int32) : ∀ (d n k : Nat), k + d = 348 → d < n → f_X6_changes_L18 F n (nI k) (fun j => if j < k then past (j + 116) else past j) = some (fun j => if j < 348 then past (j + 116) else past j) := by
  intro d
  induction d with
  | zero =>
    intro n k hk hn
    obtain ⟨m, rfl⟩ : ∃ m, n = m + 1 := ⟨n - 1, by omega⟩
    obtain rfl : k = 348 := by omega
    rw [f_X6_changes_L18, if_pos (show (348 : Int32) ≤ nI 348 from nI_le (a := 348) (b := 348) (by omega) (by decide))]
  | succ d ih =>
    intro n k hk hn
    obtain ⟨m, rfl⟩ : ∃ m, n = m + 1 := ⟨n - 1, by omega⟩
    rw [f_X6_changes_L18, if_neg (show ¬ (348 : Int32) ≤ nI k from nI_ge (a := k) (b := 348) (by omega) (by decide)), show (116 : Int32) = nI 116 from rfl, nI_add, rd_ok _ (by omega) (by decide), ob_some, wr_ok _ _ (by omega) (by decide), ob_some, show (1 : Int32) = nI 1 from rfl, nI_add, ob_some]
    have e : upd (fun j => if j < k then past (j + 116) else past j) k (if k + 116 < k then past (k + 116 + 116) else past (k + 116)) = (fun j => if j < k + 1 then past (j + 116) else past j) := by
      funext j
      unfold upd
      by_cases hj : j = k
      · subst hj
        rw [if_pos rfl, if_neg (by omega), if_pos (by omega)]
      · rw [if_neg hj]
        dsimp only
        by_cases h2 : j < k
        · rw [if_pos h2, if_pos (by omega)]
        · rw [if_neg h2, if_neg (by omega)]
    rw [e]
    exact ih m (k + 1) (by omega) (by omega)
theorem ch58 (F : Nat) (s past : Nat → Int32) (t : Int32 × (Nat → Int32)) {b : Nat} (ht : t.1 = nI b) (hb : b < 4) : ∀ (d n k : Nat), k + d = 116 → d < n → f_X6_changes_L58 F s t n (nI k) (fun j => if 116 * b ≤ j ∧ j < 116 * b + k then s (j - 116 * b) else past j) = some (fun j => if 116 * b ≤ j ∧ j < 116 * b + 116 then s (j - 116 * b) else past j) := by
  intro d
  induction d with
  | zero =>
    intro n k hk hn
    obtain ⟨m, rfl⟩ : ∃ m, n = m + 1 := ⟨n - 1, by omega⟩
    obtain rfl : k = 116 := by omega
    rw [f_X6_changes_L58, if_pos (show (116 : Int32) ≤ nI 116 from nI_le (a := 116) (b := 116) (by omega) (by decide))]
  | succ d ih =>
    intro n k hk hn
    obtain ⟨m, rfl⟩ : ∃ m, n = m + 1 := ⟨n - 1, by omega⟩
    rw [f_X6_changes_L58, if_neg (show ¬ (116 : Int32) ≤ nI k from nI_ge (a := k) (b := 116) (by omega) (by decide)), rd_ok _ (by omega) (by decide), ob_some, ht, show (116 : Int32) = nI 116 from rfl, nI_mul, nI_add, wr_ok _ _ (by omega) (by decide), ob_some, show (1 : Int32) = nI 1 from rfl, nI_add, ob_some]
    have e : upd (fun j => if 116 * b ≤ j ∧ j < 116 * b + k then s (j - 116 * b) else past j) (116 * b + k) (s k) = (fun j => if 116 * b ≤ j ∧ j < 116 * b + (k + 1) then s (j - 116 * b) else past j) := by
      funext j
      unfold upd
      by_cases hj : j = 116 * b + k
      · subst hj
        rw [if_pos rfl, if_pos (by omega)]
        congr 1
        omega
      · rw [if_neg hj]
        dsimp only
        by_cases h2 : 116 * b ≤ j ∧ j < 116 * b + k
        · rw [if_pos h2, if_pos (by omega)]
        · rw [if_neg h2, if_neg (by omega)]
    rw [e]
    exact ih m (k + 1) (by omega) (by omega)
theorem s_changes {F : Nat} (hF : 1100000 ≤ F) {ps : Int32} {s past : Nat → Int32} {hs : List AS} {S : AS} (hH : HiM ps past hs) (hl : hs.length ≤ 4) (hS : StM s S) (hok : AOk S) (hoks : ∀ (j : Nat) (S' : AS), hs[j]? = some S' → AOk S') :
    ∃ rm, f_X6_changes F ps 0 s past = some rm ∧ HiM rm.1 rm.2 (push hs S) := by
  obtain ⟨rfl, hH⟩ := hH
  have key : ∀ (b : Nat) (p2 : Nat → Int32) (h2 : List AS), b < 4 → h2.length = b → (∀ (j : Nat) (S' : AS), h2[j]? = some S' → StM (fun k => p2 (116 * j + k)) S') → (∀ (j : Nat) (S' : AS), h2[j]? = some S' → AOk S') →
      ∃ rm, ((f_X6_changes_L58 F s (nI b, p2) F 0 p2).bind fun e20 => (some (nI b + 1)).bind fun v30 => some (v30, e20)) = some rm ∧ HiM rm.1 rm.2 (h2 ++ [S]) := by
    intro b p2 h2 hb hlen hp hk
    have e0 : (fun j => if 116 * b ≤ j ∧ j < 116 * b + 0 then s (j - 116 * b) else p2 j) = p2 := by
      funext j
      rw [if_neg (by omega)]
    have e1 := ch58 F s p2 (nI b, p2) rfl hb 116 F 0 (by omega) (by omega)
    rw [e0] at e1
    rw [show (0 : Int32) = nI 0 from rfl, e1, ob_some, ob_some]
    refine ⟨_, rfl, ?_, ?_⟩
    · rw [List.length_append, hlen, show (1 : Int32) = nI 1 from rfl, nI_add]; rfl
    · intro j S' hj
      rcases Nat.lt_or_ge j b with h | h
      · rw [List.getElem?_append_left (by omega)] at hj
        have h1 := hk j S' hj
        refine (hp j S' hj).cong h1.2.1 h1.1.1 (fun i q hq => (h1.2.2 i q hq).1) (fun k hk => ?_)
        show (if 116 * b ≤ 116 * j + k ∧ 116 * j + k < 116 * b + 116 then s (116 * j + k - 116 * b) else p2 (116 * j + k)) = p2 (116 * j + k)
        rw [if_neg (by omega)]
      · rw [List.getElem?_append_right (by omega)] at hj
        have hz : j - h2.length < 1 := (List.getElem?_eq_some_iff.mp hj).1
        obtain rfl : j = b := by omega
        rw [hlen, Nat.sub_self] at hj
        cases hj
        refine hS.cong hok.2.1 hok.1.1 (fun i q hq => (hok.2.2 i q hq).1) (fun k hk => ?_)
        show (if 116 * j ≤ 116 * j + k ∧ 116 * j + k < 116 * j + 116 then s (116 * j + k - 116 * j) else p2 (116 * j + k)) = s k
        rw [if_pos (by omega)]
        congr 1
        omega
  unfold f_X6_changes push
  rw [if_pos rfl]
  by_cases h4 : hs.length < 4
  · rw [if_neg (show ¬ nI hs.length = (4 : Int32) from fun e => by have := nI_inj (a := hs.length) (b := 4) (by omega) (by decide) e; omega), ob_some, if_pos h4]
    exact key hs.length past hs h4 rfl hH hoks
  · have e4 : hs.length = 4 := by omega
    rw [if_pos (show nI hs.length = (4 : Int32) by rw [e4]; rfl), if_neg h4]
    have e0 : (fun j => if j < 0 then past (j + 116) else past j) = past := by
      funext j
      rw [if_neg (by omega)]
    have e1 := ch18 F past 348 F 0 (by omega) (by omega)
    rw [e0] at e1
    rw [show (0 : Int32) = nI 0 from rfl, e1, ob_some, ob_some, ob_some, e4, show (1 : Int32) = nI 1 from rfl, nI_sub (by decide)]
    refine key 3 _ hs.tail (by decide) (by rw [List.length_tail, e4]) ?_ ?_
    · intro j S' hj
      rw [List.getElem?_tail] at hj
      have hj5 : j + 1 < hs.length := (List.getElem?_eq_some_iff.mp hj).1
      have h1 := hoks (j + 1) S' hj
      refine (hH (j + 1) S' hj).cong h1.2.1 h1.1.1 (fun i q hq => (h1.2.2 i q hq).1) (fun k hk => ?_)
      show (if 116 * j + k < 348 then past (116 * j + k + 116) else past (116 * j + k)) = past (116 * (j + 1) + k)
      rw [if_pos (by omega)]
      congr 1
      omega
    · intro j S' hj
      rw [List.getElem?_tail] at hj
      exact hoks (j + 1) S' hj
theorem s_become (F : Nat) {row table kept : Int32} {book b2 : Nat → Int32} {S : AS} (h : StC row table kept book S) : ∃ r, f_X1_become F b2 row table kept book = some r ∧ StC r.1 r.2.1 r.2.2.1 r.2.2.2 S := by
  unfold f_X1_become
  have e : cpy 8 8 book b2 (0 : Int32) (0 : Int32) (8 : Int32) = some (va_cpy book b2 0 0 8) := by
    unfold cpy
    rw [if_pos (by decide)]
    rfl
  rw [e, ob_some]
  refine ⟨_, rfl, h.1, h.2.1, h.2.2.1, h.2.2.2.1, h.2.2.2.2.1, fun j q hj => ?_⟩
  have h8 : j < 8 := Nat.lt_of_lt_of_le (List.getElem?_eq_some_iff.mp hj).1 h.2.2.2.2.1
  have h1 := h.2.2.2.2.2 j q hj
  refine ⟨?_, h1.2⟩
  show (if 0 ≤ j ∧ j < 0 + 8 then book (0 + (j - 0)) else b2 j) = _
  rw [if_pos (by omega), Nat.zero_add, Nat.sub_zero]
  exact h1.1
theorem s_record (F : Nat) {row table kept : Int32} {book : Nat → Int32} {ps p0r p0t p0k p1r p1t p1k p2r p2t p2k p3r p3t p3k : Int32} {p0b p1b p2b p3b : Nat → Int32} {hs : List AS} {S : AS} (h : StC row table kept book S) (hH : HiC ps p0r p0t p0k p0b p1r p1t p1k p1b p2r p2t p2k p2b p3r p3t p3k p3b hs) :
    ∃ z, f_X5_record F ps row table kept book p0r p0t p0k p0b p1r p1t p1k p1b p2r p2t p2k p2b p3r p3t p3k p3b = some z ∧ HiC z.1 z.2.1 z.2.2.1 z.2.2.2.1 z.2.2.2.2.1 z.2.2.2.2.2.1 z.2.2.2.2.2.2.1 z.2.2.2.2.2.2.2.1 z.2.2.2.2.2.2.2.2.1 z.2.2.2.2.2.2.2.2.2.1 z.2.2.2.2.2.2.2.2.2.2.1 z.2.2.2.2.2.2.2.2.2.2.2.1 z.2.2.2.2.2.2.2.2.2.2.2.2.1 z.2.2.2.2.2.2.2.2.2.2.2.2.2.1 z.2.2.2.2.2.2.2.2.2.2.2.2.2.2.1 z.2.2.2.2.2.2.2.2.2.2.2.2.2.2.2.1 z.2.2.2.2.2.2.2.2.2.2.2.2.2.2.2.2 (push hs S) := by
  obtain ⟨rfl, hl, g0, g1, g2, g3⟩ := hH
  unfold f_X5_record
  match hs, hl with
  | [], _ =>
    have hp : push [] S = [S] := rfl
    rw [hp]
    rw [if_pos (show nI ([] : List AS).length = (0 : Int32) from rfl)]
    unfold f_X5_record_0
    obtain ⟨r, e, hr⟩ := s_become F (b2 := p0b) h
    rw [e, ob_some]
    refine ⟨_, rfl, ?_⟩
    refine ⟨rfl, Nat.le_of_ble_eq_true rfl, ?_, ?_, ?_, ?_⟩
    · intro S' e
      cases e
      exact hr
    · intro S' e
      cases e
    · intro S' e
      cases e
    · intro S' e
      cases e
  | [a], _ =>
    have hp : push [a] S = [a, S] := rfl
    rw [hp]
    rw [if_neg (show ¬ nI [a].length = (0 : Int32) from by show ¬ (1 : Int32) = 0; decide), if_pos (show nI [a].length = (1 : Int32) from rfl)]
    unfold f_X5_record_1
    obtain ⟨r, e, hr⟩ := s_become F (b2 := p1b) h
    rw [e, ob_some]
    refine ⟨_, rfl, ?_⟩
    refine ⟨rfl, Nat.le_of_ble_eq_true rfl, ?_, ?_, ?_, ?_⟩
    · exact g0
    · intro S' e
      cases e
      exact hr
    · intro S' e
      cases e
    · intro S' e
      cases e
  | [a, b], _ =>
    have hp : push [a, b] S = [a, b, S] := rfl
    rw [hp]
    rw [if_neg (show ¬ nI [a, b].length = (0 : Int32) from by show ¬ (2 : Int32) = 0; decide), if_neg (show ¬ nI [a, b].length = (1 : Int32) from by show ¬ (2 : Int32) = 1; decide), if_pos (show nI [a, b].length = (2 : Int32) from rfl)]
    unfold f_X5_record_2
    obtain ⟨r, e, hr⟩ := s_become F (b2 := p2b) h
    rw [e, ob_some]
    refine ⟨_, rfl, ?_⟩
    refine ⟨rfl, Nat.le_of_ble_eq_true rfl, ?_, ?_, ?_, ?_⟩
    · exact g0
    · exact g1
    · intro S' e
      cases e
      exact hr
    · intro S' e
      cases e
  | [a, b, d], _ =>
    have hp : push [a, b, d] S = [a, b, d, S] := rfl
    rw [hp]
    rw [if_neg (show ¬ nI [a, b, d].length = (0 : Int32) from by show ¬ (3 : Int32) = 0; decide), if_neg (show ¬ nI [a, b, d].length = (1 : Int32) from by show ¬ (3 : Int32) = 1; decide), if_neg (show ¬ nI [a, b, d].length = (2 : Int32) from by show ¬ (3 : Int32) = 2; decide), if_pos (show nI [a, b, d].length = (3 : Int32) from rfl)]
    unfold f_X5_record_3
    obtain ⟨r, e, hr⟩ := s_become F (b2 := p3b) h
    rw [e, ob_some]
    refine ⟨_, rfl, ?_⟩
    refine ⟨rfl, Nat.le_of_ble_eq_true rfl, ?_, ?_, ?_, ?_⟩
    · exact g0
    · exact g1
    · exact g2
    · intro S' e
      cases e
      exact hr
  | [a, b, d, q], _ =>
    have hp : push [a, b, d, q] S = [b, d, q, S] := rfl
    rw [hp]
    rw [if_neg (show ¬ nI [a, b, d, q].length = (0 : Int32) from by show ¬ (4 : Int32) = 0; decide), if_neg (show ¬ nI [a, b, d, q].length = (1 : Int32) from by show ¬ (4 : Int32) = 1; decide), if_neg (show ¬ nI [a, b, d, q].length = (2 : Int32) from by show ¬ (4 : Int32) = 2; decide), if_neg (show ¬ nI [a, b, d, q].length = (3 : Int32) from by show ¬ (4 : Int32) = 3; decide), if_pos (show nI [a, b, d, q].length = (4 : Int32) from rfl)]
    unfold f_X5_record_4 f_X5_dropOldest
    rw [ob_some]
    obtain ⟨r, e, hr⟩ := s_become F (b2 := p0b) h
    rw [e, ob_some]
    refine ⟨_, rfl, ?_⟩
    refine ⟨rfl, Nat.le_of_ble_eq_true rfl, ?_, ?_, ?_, ?_⟩
    · intro S' e
      cases e
      exact g1 _ rfl
    · intro S' e
      cases e
      exact g2 _ rfl
    · intro S' e
      cases e
      exact g3 _ rfl
    · intro S' e
      cases e
      exact hr
  | a :: b :: d :: q :: w :: l, hl => exact absurd hl (by simp)
