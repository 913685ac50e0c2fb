-- reading: signs, digits, numbers, rows
theorem c_rs1 (F : Nat) (len q c : Int32) (signs : Nat → Int32) : f_X2_readSign F len q 1 signs c = some (q, 1) := by
  unfold f_X2_readSign
  rw [if_neg ne10, ob_some]
theorem c_rsy (F : Nat) {len : Int32} {signs : Nat → Int32} {typed : Int32} {text : Nat → Int32} {tx : List Nat} (hT : TxR len signs typed text tx) {q : Nat} (hq : q ≤ 60) {c : Int32} {a : Nat} (h1 : c = nI a) (ha : 0 < a) (ha2 : a < 200) (h : gl tx q = a) : f_X2_readSign F len (nI q) 0 signs c = some (nI (q + 1), 0) := by
  unfold f_X2_readSign
  rw [if_pos rfl, c_isB F hT hq (lo := c) (hi := c) h1 h1 ha ha2 ha2, ob_some, if_pos (show a ≤ gl tx q ∧ gl tx q ≤ a from ⟨by omega, by omega⟩), if_neg ne10, show (1 : Int32) = nI 1 from rfl, nI_add, ob_some, ob_some]
theorem c_rsn (F : Nat) {len : Int32} {signs : Nat → Int32} {typed : Int32} {text : Nat → Int32} {tx : List Nat} (hT : TxR len signs typed text tx) {q : Nat} (hq : q ≤ 60) {c : Int32} {a : Nat} (h1 : c = nI a) (ha : 0 < a) (ha2 : a < 200) (h : ¬ gl tx q = a) : f_X2_readSign F len (nI q) 0 signs c = some (nI q, 1) := by
  unfold f_X2_readSign
  rw [if_pos rfl, c_isB F hT hq (lo := c) (hi := c) h1 h1 ha ha2 ha2, ob_some, if_neg (show ¬ (a ≤ gl tx q ∧ gl tx q ≤ a) from fun z => h (by omega)), if_pos rfl, ob_some]
theorem c_rd1 (F : Nat) (len q : Int32) (signs : Nat → Int32) : f_X2_readDigit F len q 1 signs = some (0, q, 1) := by
  unfold f_X2_readDigit
  rw [if_neg ne10]
abbrev Dg (tx : List Nat) (q : Nat) : Prop := 48 ≤ gl tx q ∧ gl tx q ≤ 57
abbrev Lt (tx : List Nat) (q : Nat) : Prop := 97 ≤ gl tx q ∧ gl tx q ≤ 100
theorem c_rdy (F : Nat) {len : Int32} {signs : Nat → Int32} {typed : Int32} {text : Nat → Int32} {tx : List Nat} (hT : TxR len signs typed text tx) {q : Nat} (h : Dg tx q) : f_X2_readDigit F len (nI q) 0 signs = some (nI (gl tx q - 48), nI (q + 1), 0) := by
  have hq := gl_in (tx := tx) (i := q) (by have := h.1; omega)
  have h60 := hT.2.2.1
  unfold f_X2_readDigit
  rw [if_pos rfl, c_isB F hT (by omega) (lo := 48) (hi := 57) (a := 48) (b := 57) rfl rfl (by decide) (by decide) (by decide), ob_some, if_pos h, if_neg ne10, c_sign F hT hq, ob_some, show (48 : Int32) = nI 48 from rfl, nI_sub h.1, ob_some, show (1 : Int32) = nI 1 from rfl, nI_add, ob_some]
theorem c_rdn (F : Nat) {len : Int32} {signs : Nat → Int32} {typed : Int32} {text : Nat → Int32} {tx : List Nat} (hT : TxR len signs typed text tx) {q : Nat} (hq : q ≤ 60) (h : ¬ Dg tx q) : f_X2_readDigit F len (nI q) 0 signs = some (0, nI q, 1) := by
  unfold f_X2_readDigit
  rw [if_pos rfl, c_isB F hT hq (lo := 48) (hi := 57) (a := 48) (b := 57) rfl rfl (by decide) (by decide) (by decide), ob_some, if_neg h, if_pos rfl]
def nb (tx : List Nat) : Nat → Nat → Nat → Nat
  | 0, _, a => a
  | k + 1, p, a => if Dg tx p then nb tx k (p + 1) (10 * a + (gl tx p - 48)) else a
theorem nb_lt (tx : List Nat) : ∀ k p a, nb tx k p a < (a + 1) * 10 ^ k
  | 0, p, a => by unfold nb; omega
  | k + 1, p, a => by
    unfold nb
    rw [Nat.pow_succ, Nat.mul_comm (10 ^ k) 10, ← Nat.mul_assoc]
    have hp : 0 < 10 ^ k := Nat.pow_pos (by decide)
    by_cases c : Dg tx p
    · rw [if_pos c]
      refine Nat.lt_of_lt_of_le (nb_lt tx k (p + 1) _) (Nat.mul_le_mul_right _ ?_)
      have := c.2
      omega
    · rw [if_neg c]
      refine Nat.lt_of_lt_of_le (show a < (a + 1) * 10 by omega) (Nat.le_mul_of_pos_right _ hp)
theorem c_L10 (F : Nat) {len : Int32} {signs : Nat → Int32} {typed : Int32} {text : Nat → Int32} {tx : List Nat} (hT : TxR len signs typed text tx) : ∀ (k i n q a : Nat), i + k = 6 → k < n → q ≤ tx.length → f_X2_readNumber_L10 F len signs n (nI i) (nI a) (nI q) 0 = some (nI (nb tx k q a), nI (rn tx 48 57 k q), 0) := by
  have h60 := hT.2.2.1
  intro k
  induction k with
  | zero =>
    intro i n q a hi hn hq
    obtain ⟨n, rfl⟩ : ∃ k, n = k + 1 := ⟨n - 1, by omega⟩
    obtain rfl : i = 6 := by omega
    rw [f_X2_readNumber_L10, if_pos (show (6 : Int32) ≤ nI 6 by decide)]
    rfl
  | succ k ih =>
    intro i n q a hi hn hq
    obtain ⟨n, rfl⟩ : ∃ k, n = k + 1 := ⟨n - 1, by omega⟩
    rw [f_X2_readNumber_L10, if_neg (show ¬ (6 : Int32) ≤ nI i from nI_ge (b := 6) (by omega) (by decide)), if_pos rfl, c_isB F hT (by omega) (lo := 48) (hi := 57) (a := 48) (b := 57) rfl rfl (by decide) (by decide) (by decide), ob_some, nb, rn]
    by_cases c : Dg tx q
    · have hq2 := gl_in (tx := tx) (i := q) (by have := c.1; omega)
      rw [if_pos c, if_neg ne10, c_rdy F hT c, ob_some, if_pos c, if_pos c, show (10 : Int32) = nI 10 from rfl, nI_mul, nI_add, ob_some, show (1 : Int32) = nI 1 from rfl, nI_add, ob_some]
      exact ih (i + 1) n (q + 1) _ (by omega) (by omega) (by omega)
    · rw [if_neg c, if_pos rfl, if_neg c, if_neg c]
theorem c_rn1 {F : Nat} (hF : 1100000 ≤ F) (len q : Int32) (signs : Nat → Int32) : f_X2_readNumber F len q 1 signs = some (0, q, 1) := by
  obtain ⟨n, hn⟩ : ∃ k, F = k + 1 := ⟨F - 1, by omega⟩
  have e : f_X2_readNumber_L10 F len signs (n + 1) 1 0 q 1 = some (0, q, 1) := by
    rw [f_X2_readNumber_L10, if_neg (show ¬ (6 : Int32) ≤ 1 by decide), if_neg ne10]
  rw [← hn] at e
  unfold f_X2_readNumber
  rw [c_rd1, ob_some, e, ob_some]
theorem c_rnn {F : Nat} (hF : 1100000 ≤ F) {len : Int32} {signs : Nat → Int32} {typed : Int32} {text : Nat → Int32} {tx : List Nat} (hT : TxR len signs typed text tx) {q : Nat} (hq : q ≤ 60) (h : ¬ Dg tx q) : f_X2_readNumber F len (nI q) 0 signs = some (0, nI q, 1) := by
  obtain ⟨n, hn⟩ : ∃ k, F = k + 1 := ⟨F - 1, by omega⟩
  have e : f_X2_readNumber_L10 F len signs (n + 1) 1 0 (nI q) 1 = some (0, nI q, 1) := by
    rw [f_X2_readNumber_L10, if_neg (show ¬ (6 : Int32) ≤ 1 by decide), if_neg ne10]
  rw [← hn] at e
  unfold f_X2_readNumber
  rw [c_rdn F hT hq h, ob_some, e, ob_some]
theorem c_rny {F : Nat} (hF : 1100000 ≤ F) {len : Int32} {signs : Nat → Int32} {typed : Int32} {text : Nat → Int32} {tx : List Nat} (hT : TxR len signs typed text tx) {q : Nat} (h : Dg tx q) : f_X2_readNumber F len (nI q) 0 signs = some (nI (nb tx 6 q 0), nI (rn tx 48 57 6 q), 0) := by
  have hq2 := gl_in (tx := tx) (i := q) (by have := h.1; omega)
  have e := c_L10 F hT 5 1 F (q + 1) (gl tx q - 48) (by decide) (by omega) (by omega)
  have e' : f_X2_readNumber_L10 F len signs F (1 : Int32) (nI (gl tx q - 48)) (nI (q + 1)) 0 = some (nI (nb tx 5 (q + 1) (gl tx q - 48)), nI (rn tx 48 57 5 (q + 1)), 0) := e
  have en : nb tx 6 q 0 = nb tx 5 (q + 1) (gl tx q - 48) := by rw [nb, if_pos h, Nat.mul_zero, Nat.zero_add]
  have er : rn tx 48 57 6 q = rn tx 48 57 5 (q + 1) := by rw [rn, if_pos h]
  unfold f_X2_readNumber
  rw [c_rdy F hT h, ob_some, e', ob_some, en, er]
def lw (tx : List Nat) : Nat → Nat → List Nat
  | 0, _ => []
  | k + 1, p => if Lt tx p then (gl tx p - 97) :: lw tx k (p + 1) else []
theorem lw_spec (tx : List Nat) : ∀ k p, p + (lw tx k p).length = rn tx 97 100 k p ∧ (∀ x ∈ lw tx k p, x < 4) ∧ (lw tx k p).length ≤ k ∧ ∀ i, i < (lw tx k p).length → gl tx (p + i) = 97 + gl (lw tx k p) i
  | 0, p => ⟨rfl, fun _ h => (by cases h), Nat.le_refl _, fun _ h => absurd h (Nat.not_lt_zero _)⟩
  | k + 1, p => by
    obtain ⟨h1, h2, h3, h4⟩ := lw_spec tx k (p + 1)
    unfold lw rn
    by_cases c : Lt tx p
    · have c1 := c.1
      have c2 := c.2
      rw [if_pos c, if_pos c, ← h1, List.length_cons]
      refine ⟨by omega, fun x hx => ?_, by omega, fun i hi => ?_⟩
      · rcases List.mem_cons.mp hx with e | hx
        · rw [e]; omega
        · exact h2 x hx
      · cases i with
        | zero =>
          show gl tx p = 97 + (gl tx p - 97)
          omega
        | succ i =>
          have h5 := h4 i (by omega)
          rw [show p + (i + 1) = p + 1 + i by omega, h5]
          rfl
    · rw [if_neg c, if_neg c]
      exact ⟨rfl, fun _ h => (by cases h), Nat.zero_le _, fun _ h => absurd h (Nat.not_lt_zero _)⟩
theorem c_L29 (F : Nat) {len : Int32} {signs : Nat → Int32} {typed : Int32} {text : Nat → Int32} {tx : List Nat} (hT : TxR len signs typed text tx) : ∀ (k n q : Nat) (r : List Nat), r.length + k = 10 → k < n → q ≤ tx.length → RowOk r → f_X2_readRow_L29 F len signs 0 n (nI r.length) (encR r) (nI q) = some (encR (r ++ lw tx k q), nI (rn tx 97 100 k q)) := by
  have h60 := hT.2.2.1
  intro k
  induction k with
  | zero =>
    intro n q r hi hn hq hr
    obtain ⟨n, rfl⟩ : ∃ k, n = k + 1 := ⟨n - 1, by omega⟩
    rw [f_X2_readRow_L29, if_pos (show (10 : Int32) ≤ nI r.length from nI_le (a := 10) (by omega) (by omega)), lw, List.append_nil]
    rfl
  | succ k ih =>
    intro n q r hi hn hq hr
    obtain ⟨n, rfl⟩ : ∃ k, n = k + 1 := ⟨n - 1, by omega⟩
    rw [f_X2_readRow_L29, if_neg (show ¬ (10 : Int32) ≤ nI r.length from nI_ge (b := 10) (by omega) (by decide)), if_pos rfl, c_isB F hT (by omega) (lo := 97) (hi := 100) (a := 97) (b := 100) rfl rfl (by decide) (by decide) (by decide), ob_some, lw, rn]
    by_cases c : Lt tx q
    · have c1 := c.1
      have c2 := c.2
      have hq2 := gl_in (tx := tx) (i := q) (by omega)
      have ih' := ih n (q + 1) (r ++ [gl tx q - 97]) (by rw [List.length_append]; show r.length + 1 + k = 10; omega) (by omega) (by omega) (hr.snoc (by omega) (by omega))
      rw [List.length_append, List.append_assoc] at ih'
      rw [if_pos c, if_neg ne10, c_sign F hT hq2, ob_some, show (97 : Int32) = nI 97 from rfl, nI_sub c1, s_longer F hr (by omega) (by omega), ob_some, show (1 : Int32) = nI 1 from rfl, nI_add, ob_some, nI_add, ob_some, if_pos c, if_pos c]
      exact ih'
    · rw [if_neg c, if_pos rfl, if_neg c, if_neg c, List.append_nil]
theorem c_row1 {F : Nat} (hF : 1100000 ≤ F) (len row q : Int32) (signs : Nat → Int32) : f_X2_readRow F len row q 1 signs = some (row, q, 1) := by
  obtain ⟨n, hn⟩ : ∃ k, F = k + 1 := ⟨F - 1, by omega⟩
  have e : f_X2_readRow_L29 F len signs 1 (n + 1) 0 row q = some (row, q) := by
    rw [f_X2_readRow_L29, if_neg (show ¬ (10 : Int32) ≤ 0 by decide), if_neg ne10]
  rw [← hn] at e
  unfold f_X2_readRow
  rw [if_neg ne10, ob_some, ckz1, ob_some, e, ob_some]
theorem c_rown {F : Nat} (hF : 1100000 ≤ F) {len : Int32} {signs : Nat → Int32} {typed : Int32} {text : Nat → Int32} {tx : List Nat} (hT : TxR len signs typed text tx) {q : Nat} (hq : q ≤ 60) (h : ¬ Lt tx q) (row : Int32) : f_X2_readRow F len row (nI q) 0 signs = some (row, nI q, 1) := by
  obtain ⟨n, hn⟩ : ∃ k, F = k + 1 := ⟨F - 1, by omega⟩
  have e : f_X2_readRow_L29 F len signs 1 (n + 1) 0 row (nI q) = some (row, nI q) := by
    rw [f_X2_readRow_L29, if_neg (show ¬ (10 : Int32) ≤ 0 by decide), if_neg ne10]
  rw [← hn] at e
  unfold f_X2_readRow
  rw [if_pos rfl, c_isB F hT hq (lo := 97) (hi := 100) (a := 97) (b := 100) rfl rfl (by decide) (by decide) (by decide), ob_some, if_neg h, if_pos rfl, ob_some, ckz1, ob_some, e, ob_some]
theorem c_rowy {F : Nat} (hF : 1100000 ≤ F) {len : Int32} {signs : Nat → Int32} {typed : Int32} {text : Nat → Int32} {tx : List Nat} (hT : TxR len signs typed text tx) {q : Nat} (h : Lt tx q) : f_X2_readRow F len 0 (nI q) 0 signs = some (encR (lw tx 10 q), nI (rn tx 97 100 10 q), 0) := by
  have h60 := hT.2.2.1
  have hq2 := gl_in (tx := tx) (i := q) (by have := h.1; omega)
  have e := c_L29 F hT 10 F q [] rfl (by omega) (by omega) RowOk.nil
  have e' : f_X2_readRow_L29 F len signs 0 F 0 0 (nI q) = some (encR (lw tx 10 q), nI (rn tx 97 100 10 q)) := e
  unfold f_X2_readRow
  rw [if_pos rfl, c_isB F hT (by omega) (lo := 97) (hi := 100) (a := 97) (b := 100) rfl rfl (by decide) (by decide) (by decide), ob_some, if_pos h, if_neg ne10, ob_some, ckz0, ob_some, e', ob_some]
-- the reference
theorem m_psy (F : Nat) {len : Int32} {signs : Nat → Int32} {typed : Int32} {text : Nat → Int32} {tx : List Nat} (hT : TxR len signs typed text tx) {q : Nat} (hq : q ≤ 60) {c : Int32} {a : Nat} (h1 : c = nI a) (ha : 0 < a) (ha2 : a < 200) (h : gl tx q = a) : f_X6_passes F typed (nI q) text c = some (1, nI (q + 1)) := by
  unfold f_X6_passes
  rw [m_isAt F hT hq (lo := c) (hi := c) h1 h1 ha ha2 ha2, ob_some, if_pos (show a ≤ gl tx q ∧ gl tx q ≤ a from ⟨by omega, by omega⟩), if_neg ne10, ob_some, show (1 : Int32) = nI 1 from rfl, nI_add, ob_some, show nI 1 = (1 : Int32) from rfl, ckz1, ob_some]
theorem m_psn (F : Nat) {len : Int32} {signs : Nat → Int32} {typed : Int32} {text : Nat → Int32} {tx : List Nat} (hT : TxR len signs typed text tx) {q : Nat} (hq : q ≤ 60) {c : Int32} {a : Nat} (h1 : c = nI a) (ha : 0 < a) (ha2 : a < 200) (h : ¬ gl tx q = a) : f_X6_passes F typed (nI q) text c = some (0, nI q) := by
  unfold f_X6_passes
  rw [m_isAt F hT hq (lo := c) (hi := c) h1 h1 ha ha2 ha2, ob_some, if_neg (show ¬ (a ≤ gl tx q ∧ gl tx q ≤ a) from fun z => h (by omega)), if_pos rfl, ob_some, show nI q + 0 = nI q from nI_add q 0, ob_some, ckz0, ob_some]
theorem m_L5 (F : Nat) {len : Int32} {signs : Nat → Int32} {typed : Int32} {text : Nat → Int32} {tx : List Nat} (hT : TxR len signs typed text tx) {q : Nat} : ∀ (k n p : Nat), p + k = q + 10 → q ≤ p → k < n → p ≤ tx.length → f_X6_lettersRead_L5 F typed (nI q) text n (nI p) = some (nI (rn tx 97 100 k p)) := by
  have h60 := hT.2.2.1
  intro k
  induction k with
  | zero =>
    intro n p h1 h2 hn hp
    obtain ⟨n, rfl⟩ : ∃ k, n = k + 1 := ⟨n - 1, by omega⟩
    rw [f_X6_lettersRead_L5, m_isAt F hT (by omega) (lo := 97) (hi := 100) (a := 97) (b := 100) rfl rfl (by decide) (by decide) (by decide), ob_some]
    by_cases c : Lt tx p
    · rw [if_pos c, if_neg ne10, nI_sub h2, if_pos (show (10 : Int32) ≤ nI (p - q) from nI_le (a := 10) (by omega) (by omega))]
      rfl
    · rw [if_neg c, if_pos rfl]
      rfl
  | succ k ih =>
    intro n p h1 h2 hn hp
    obtain ⟨n, rfl⟩ : ∃ k, n = k + 1 := ⟨n - 1, by omega⟩
    rw [f_X6_lettersRead_L5, m_isAt F hT (by omega) (lo := 97) (hi := 100) (a := 97) (b := 100) rfl rfl (by decide) (by decide) (by decide), ob_some, rn]
    by_cases c : Lt tx p
    · have hq2 := gl_in (tx := tx) (i := p) (by have := c.1; omega)
      rw [if_pos c, if_neg ne10, nI_sub h2, if_neg (show ¬ (10 : Int32) ≤ nI (p - q) from nI_ge (b := 10) (by omega) (by decide)), show (1 : Int32) = nI 1 from rfl, nI_add, ob_some, if_pos c]
      exact ih n (p + 1) (by omega) (by omega) (by omega) (by omega)
    · rw [if_neg c, if_pos rfl, if_neg c]
theorem m_lry {F : Nat} (hF : 1100000 ≤ F) {len : Int32} {signs : Nat → Int32} {typed : Int32} {text : Nat → Int32} {tx : List Nat} (hT : TxR len signs typed text tx) {q : Nat} (h : Lt tx q) : f_X6_lettersRead F typed (nI q) text = some (1, nI (rn tx 97 100 10 q)) := by
  have h60 := hT.2.2.1
  have hq2 := gl_in (tx := tx) (i := q) (by have := h.1; omega)
  have hc := rn_ge tx 97 100 9 (q + 1)
  have hc2 := rn_cap tx 97 100 9 (q + 1)
  unfold f_X6_lettersRead
  rw [m_L5 F hT 10 F q rfl (Nat.le_refl _) (by omega) (by omega), ob_some, rn, if_pos h, if_neg (nI_ge (by omega) (by omega)), ob_some, ckz1, ob_some]
theorem m_lrn {F : Nat} (hF : 1100000 ≤ F) {len : Int32} {signs : Nat → Int32} {typed : Int32} {text : Nat → Int32} {tx : List Nat} (hT : TxR len signs typed text tx) {q : Nat} (hq : q ≤ tx.length) (h : ¬ Lt tx q) : f_X6_lettersRead F typed (nI q) text = some (0, nI q) := by
  have h60 := hT.2.2.1
  unfold f_X6_lettersRead
  rw [m_L5 F hT 10 F q rfl (Nat.le_refl _) (by omega) hq, ob_some, rn, if_neg h, if_pos (nI_le (Nat.le_refl _) (by omega)), ob_some, ckz0, ob_some]
theorem m_L21 (F : Nat) {len : Int32} {signs : Nat → Int32} {typed : Int32} {text : Nat → Int32} {tx : List Nat} (hT : TxR len signs typed text tx) {q : Nat} {z : Int32 × Int32} (hz : z.2 = nI q) : ∀ (k n p a : Nat), p + k = q + 6 → q ≤ p → k < n → p ≤ tx.length → f_X6_numberRead_L21 F typed text z n (nI a) (nI p) = some (nI (nb tx k p a), nI (rn tx 48 57 k p)) := by
  have h60 := hT.2.2.1
  have hx := hT.2.2.2
  intro k
  induction k with
  | zero =>
    intro n p a h1 h2 hn hp
    obtain ⟨n, rfl⟩ : ∃ k, n = k + 1 := ⟨n - 1, by omega⟩
    rw [f_X6_numberRead_L21, m_isAt F hT (by omega) (lo := 48) (hi := 57) (a := 48) (b := 57) rfl rfl (by decide) (by decide) (by decide), ob_some, hz]
    by_cases c : Dg tx p
    · rw [if_pos c, if_neg ne10, nI_sub h2, if_pos (show (6 : Int32) ≤ nI (p - q) from nI_le (a := 6) (by omega) (by omega))]
      rfl
    · rw [if_neg c, if_pos rfl]
      rfl
  | succ k ih =>
    intro n p a h1 h2 hn hp
    obtain ⟨n, rfl⟩ : ∃ k, n = k + 1 := ⟨n - 1, by omega⟩
    rw [f_X6_numberRead_L21, m_isAt F hT (by omega) (lo := 48) (hi := 57) (a := 48) (b := 57) rfl rfl (by decide) (by decide) (by decide), ob_some, hz, nb, rn]
    by_cases c : Dg tx p
    · have c1 := c.1
      have hq2 := gl_in (tx := tx) (i := p) (by omega)
      rw [if_pos c, if_neg ne10, nI_sub h2, if_neg (show ¬ (6 : Int32) ≤ nI (p - q) from nI_ge (b := 6) (by omega) (by decide)), rd_ok _ (by omega) (by decide), ob_some, (hx p hq2).2.1, show (10 : Int32) = nI 10 from rfl, nI_mul, nI_add, show (48 : Int32) = nI 48 from rfl, nI_sub (by omega), ob_some, show (1 : Int32) = nI 1 from rfl, nI_add, ob_some, if_pos c, if_pos c, show 10 * a + gl tx p - 48 = 10 * a + (gl tx p - 48) by omega]
      exact ih n (p + 1) _ (by omega) (by omega) (by omega) (by omega)
    · rw [if_neg c, if_pos rfl, if_neg c, if_neg c]
theorem m_kb (F : Nat) {len : Int32} {signs : Nat → Int32} {typed : Int32} {text : Nat → Int32} {tx : List Nat} (hT : TxR len signs typed text tx) {q : Nat} (hq : q ≤ 60) (h : ¬ gl tx q = 32) (kn : Int32) : f_X6_kindRead F typed (nI q) kn text = some (0, nI q, kn) := by
  unfold f_X6_kindRead
  rw [m_psn F hT hq (c := 32) (a := 32) rfl (by decide) (by decide) h, ob_some, if_pos rfl]
theorem m_kd (F : Nat) {len : Int32} {signs : Nat → Int32} {typed : Int32} {text : Nat → Int32} {tx : List Nat} (hT : TxR len signs typed text tx) {q : Nat} (hq : q < tx.length) (h : gl tx q = 32) (h2 : ¬ Dg tx (q + 1)) (kn : Int32) : f_X6_kindRead F typed (nI q) kn text = some (0, nI (q + 1), kn) := by
  have h60 := hT.2.2.1
  unfold f_X6_kindRead
  rw [m_psy F hT (by omega) (c := 32) (a := 32) rfl (by decide) (by decide) h, ob_some, if_neg ne10, m_isAt F hT (by omega) (lo := 48) (hi := 57) (a := 48) (b := 57) rfl rfl (by decide) (by decide) (by decide), ob_some, if_neg h2, if_pos rfl]
theorem m_ky (F : Nat) {len : Int32} {signs : Nat → Int32} {typed : Int32} {text : Nat → Int32} {tx : List Nat} (hT : TxR len signs typed text tx) {q : Nat} (h : gl tx q = 32) (h2 : Dg tx (q + 1)) (kn : Int32) : f_X6_kindRead F typed (nI q) kn text = some (1, nI (q + 2), nI (gl tx (q + 1) - 48)) := by
  have h60 := hT.2.2.1
  have hx := hT.2.2.2
  have c1 := h2.1
  have hq2 := gl_in (tx := tx) (i := q + 1) (by omega)
  unfold f_X6_kindRead
  rw [m_psy F hT (by omega) (c := 32) (a := 32) rfl (by decide) (by decide) h, ob_some, if_neg ne10, m_isAt F hT (by omega) (lo := 48) (hi := 57) (a := 48) (b := 57) rfl rfl (by decide) (by decide) (by decide), ob_some, if_pos h2, if_neg ne10, rd_ok _ (by omega) (by decide), ob_some, (hx _ hq2).2.1, show (48 : Int32) = nI 48 from rfl, nI_sub c1, ob_some, show nI (q + 1) + (1 : Int32) = nI (q + 2) from nI_add _ 1, ob_some]
theorem m_nb (F : Nat) {len : Int32} {signs : Nat → Int32} {typed : Int32} {text : Nat → Int32} {tx : List Nat} (hT : TxR len signs typed text tx) {q : Nat} (hq : q ≤ 60) (h : ¬ gl tx q = 32) (pn : Int32) : f_X6_numberRead F typed (nI q) pn text = some (0, nI q, pn) := by
  unfold f_X6_numberRead
  rw [m_psn F hT hq (c := 32) (a := 32) rfl (by decide) (by decide) h, ob_some, if_pos rfl]
theorem m_nd {F : Nat} (hF : 1100000 ≤ F) {len : Int32} {signs : Nat → Int32} {typed : Int32} {text : Nat → Int32} {tx : List Nat} (hT : TxR len signs typed text tx) {q : Nat} (hq : q < tx.length) (h : gl tx q = 32) (h2 : ¬ Dg tx (q + 1)) (pn : Int32) : f_X6_numberRead F typed (nI q) pn text = some (0, nI (q + 1), 0) := by
  have h60 := hT.2.2.1
  have e := m_L21 F hT (q := q + 1) (z := ((1 : Int32), nI (q + 1))) rfl 6 F (q + 1) 0 rfl (Nat.le_refl _) (by omega) (by omega)
  rw [nb, rn, if_neg h2, if_neg h2] at e
  have e' : f_X6_numberRead_L21 F typed text ((1 : Int32), nI (q + 1)) F (0 : Int32) (nI (q + 1)) = some ((0 : Int32), nI (q + 1)) := e
  unfold f_X6_numberRead
  rw [m_psy F hT (by omega) (c := 32) (a := 32) rfl (by decide) (by decide) h, ob_some, if_neg ne10, e', ob_some, if_pos (nI_le (Nat.le_refl _) (by omega)), ob_some, ckz0, ob_some]
theorem m_ny {F : Nat} (hF : 1100000 ≤ F) {len : Int32} {signs : Nat → Int32} {typed : Int32} {text : Nat → Int32} {tx : List Nat} (hT : TxR len signs typed text tx) {q : Nat} (h : gl tx q = 32) (h2 : Dg tx (q + 1)) (pn : Int32) : f_X6_numberRead F typed (nI q) pn text = some (1, nI (rn tx 48 57 6 (q + 1)), nI (nb tx 6 (q + 1) 0)) := by
  have h60 := hT.2.2.1
  have hq2 := gl_in (tx := tx) (i := q + 1) (by have := h2.1; omega)
  have hc := rn_ge tx 48 57 5 (q + 1 + 1)
  have hc2 := rn_cap tx 48 57 5 (q + 1 + 1)
  have hc3 : rn tx 48 57 6 (q + 1) = rn tx 48 57 5 (q + 1 + 1) := by rw [rn, if_pos h2]
  have e := m_L21 F hT (q := q + 1) (z := ((1 : Int32), nI (q + 1))) rfl 6 F (q + 1) 0 rfl (Nat.le_refl _) (by omega) (by omega)
  have e' : f_X6_numberRead_L21 F typed text ((1 : Int32), nI (q + 1)) F (0 : Int32) (nI (q + 1)) = some (nI (nb tx 6 (q + 1) 0), nI (rn tx 48 57 6 (q + 1))) := e
  unfold f_X6_numberRead
  rw [m_psy F hT (by omega) (c := 32) (a := 32) rfl (by decide) (by decide) h, ob_some, if_neg ne10, e', ob_some, if_neg (nI_ge (by omega) (by omega)), ob_some, ckz1, ob_some]
