-- texts: characters, runs of them, words
theorem gl_off {tx : List Nat} {i : Nat} (h : tx.length ≤ i) : gl tx i = 0 := by
  unfold gl
  rw [List.getD_eq_getElem?_getD, List.getElem?_eq_none h]
  rfl
theorem gl_in {tx : List Nat} {i : Nat} (h : 0 < gl tx i) : i < tx.length := by
  rcases Nat.lt_or_ge i tx.length with h1 | h1
  · exact h1
  · rw [gl_off h1] at h; omega
theorem tx_le {len : Int32} {signs : Nat → Int32} {typed : Int32} {text : Nat → Int32} {tx : List Nat} (hT : TxR len signs typed text tx) (i : Nat) : gl tx i ≤ 126 := by
  rcases Nat.lt_or_ge i tx.length with h | h
  · exact (hT.2.2.2 i h).2.2.2
  · rw [gl_off h]; decide
theorem c_sign (F : Nat) {len : Int32} {signs : Nat → Int32} {typed : Int32} {text : Nat → Int32} {tx : List Nat} (hT : TxR len signs typed text tx) {q : Nat} (hq : q < tx.length) : f_X2_signAt F len signs (nI q) = some (nI (gl tx q)) := by
  obtain ⟨rfl, -, h60, h⟩ := hT
  unfold f_X2_signAt
  rw [if_neg (nI_pos (by omega)), if_neg (nI_ge hq (by omega)), if_neg (show ¬ (60 : Int32) ≤ nI q from nI_ge (b := 60) (by omega) (by decide)), rd_ok _ (by omega) (by decide), ob_some, (h q hq).1, ob_some]
theorem c_isB (F : Nat) {len : Int32} {signs : Nat → Int32} {typed : Int32} {text : Nat → Int32} {tx : List Nat} (hT : TxR len signs typed text tx) {q : Nat} (hq : q ≤ 60) {lo hi : Int32} {a b : Nat} (h1 : lo = nI a) (h2 : hi = nI b) (ha : 0 < a) (ha2 : a < 200) (hb : b < 200) : f_X2_isBetween F len (nI q) signs lo hi = some (if a ≤ gl tx q ∧ gl tx q ≤ b then 1 else 0) := by
  have hle := tx_le hT q
  subst h1
  subst h2
  unfold f_X2_isBetween
  rcases Nat.lt_or_ge q tx.length with h | h
  · rw [c_sign F hT h, ob_some]
    by_cases c1 : a ≤ gl tx q
    · rw [if_neg (nI_nlt c1 (by omega))]
      by_cases c2 : gl tx q ≤ b
      · rw [if_neg (nI_nlt c2 (by omega)), ob_some, if_pos ⟨c1, c2⟩, ckz1, ob_some]
      · rw [if_pos (nI_lt (by omega) (by omega)), ob_some, if_neg (fun z => c2 z.2), ckz0, ob_some]
    · rw [if_pos (nI_lt (by omega) (by omega)), ob_some, if_neg (fun z => c1 z.1), ckz0, ob_some]
  · have e : f_X2_signAt F len signs (nI q) = some (-1) := by
      obtain ⟨rfl, -, h60, -⟩ := hT
      unfold f_X2_signAt
      rw [if_neg (nI_pos (by omega)), if_pos (nI_le h (by omega)), ob_some]
    have em : (-1 : Int32) < nI a := (by decide +kernel : ∀ a, a < 200 → (-1 : Int32) < nI a) a ha2
    rw [e, ob_some, if_pos em, ob_some, gl_off h, if_neg (by omega), ckz0, ob_some]
theorem m_isAt (F : Nat) {len : Int32} {signs : Nat → Int32} {typed : Int32} {text : Nat → Int32} {tx : List Nat} (hT : TxR len signs typed text tx) {q : Nat} (hq : q ≤ 60) {lo hi : Int32} {a b : Nat} (h1 : lo = nI a) (h2 : hi = nI b) (ha : 0 < a) (ha2 : a < 200) (hb : b < 200) : f_X6_isAt F typed (nI q) text lo hi = some (if a ≤ gl tx q ∧ gl tx q ≤ b then 1 else 0) := by
  have hle := tx_le hT q
  subst h1
  subst h2
  obtain ⟨-, rfl, h60, h⟩ := hT
  unfold f_X6_isAt f_X6_in
  rcases Nat.lt_or_ge q tx.length with hq2 | hq2
  · rw [if_neg (nI_ge hq2 (by omega)), rd_ok _ (by omega) (by decide), ob_some, (h q hq2).2.1]
    by_cases c1 : a ≤ gl tx q
    · rw [if_neg (nI_nlt c1 (by omega))]
      by_cases c2 : gl tx q ≤ b
      · rw [if_neg (nI_nlt c2 (by omega)), ob_some, ckz1, ob_some, ob_some, if_neg ne10, ob_some, if_pos ⟨c1, c2⟩, ckz1, ob_some]
      · rw [if_pos (nI_lt (by omega) (by omega)), ob_some, ckz0, ob_some, ob_some, if_pos rfl, ob_some, if_neg (fun z => c2 z.2), ckz0, ob_some]
    · rw [if_pos (nI_lt (by omega) (by omega)), ob_some, ckz0, ob_some, ob_some, if_pos rfl, ob_some, if_neg (fun z => c1 z.1), ckz0, ob_some]
  · rw [if_pos (nI_le hq2 (by omega)), ob_some, gl_off hq2, if_neg (by omega), ckz0, ob_some]
def rn (tx : List Nat) (lo hi : Nat) : Nat → Nat → Nat
  | 0, p => p
  | k + 1, p => if lo ≤ gl tx p ∧ gl tx p ≤ hi then rn tx lo hi k (p + 1) else p
theorem rn_ge (tx : List Nat) (lo hi : Nat) : ∀ k p, p ≤ rn tx lo hi k p
  | 0, p => Nat.le_refl p
  | k + 1, p => by
    unfold rn
    by_cases c : lo ≤ gl tx p ∧ gl tx p ≤ hi
    · rw [if_pos c]; exact Nat.le_trans (Nat.le_succ p) (rn_ge tx lo hi k (p + 1))
    · rw [if_neg c]; exact Nat.le_refl _
theorem rn_le (tx : List Nat) {lo : Nat} (hi : Nat) (h0 : 0 < lo) : ∀ k p, p ≤ tx.length → rn tx lo hi k p ≤ tx.length
  | 0, p, h => h
  | k + 1, p, h => by
    unfold rn
    by_cases c : lo ≤ gl tx p ∧ gl tx p ≤ hi
    · rw [if_pos c]; exact rn_le tx hi h0 k (p + 1) (gl_in (by omega))
    · rw [if_neg c]; exact h
theorem rn_cap (tx : List Nat) (lo hi : Nat) : ∀ k p, rn tx lo hi k p ≤ p + k
  | 0, p => Nat.le_refl p
  | k + 1, p => by
    unfold rn
    by_cases c : lo ≤ gl tx p ∧ gl tx p ≤ hi
    · rw [if_pos c]; have := rn_cap tx lo hi k (p + 1); omega
    · rw [if_neg c]; omega
theorem c_L20 (F : Nat) {len : Int32} {signs : Nat → Int32} {typed : Int32} {text : Nat → Int32} {tx : List Nat} (hT : TxR len signs typed text tx) : ∀ (k n q : Nat), q ≤ tx.length → tx.length ≤ q + k → k < n → f_X2_read_L20 F len signs n (nI q) = some (nI (rn tx 97 122 k q)) := by
  have h60 := hT.2.2.1
  have hle : len = nI tx.length := hT.1
  intro k
  induction k with
  | zero =>
    intro n q h1 h2 hn
    obtain ⟨n, rfl⟩ : ∃ k, n = k + 1 := ⟨n - 1, by omega⟩
    rw [f_X2_read_L20, hle, if_pos (nI_le (by omega) (by omega))]
    rfl
  | succ k ih =>
    intro n q h1 h2 hn
    obtain ⟨n, rfl⟩ : ∃ k, n = k + 1 := ⟨n - 1, by omega⟩
    rw [f_X2_read_L20, rn]
    rcases Nat.lt_or_ge q tx.length with h | h
    · rw [if_neg (by rw [hle]; exact nI_ge h (by omega)), c_isB F hT (by omega) (lo := 97) (hi := 122) (a := 97) (b := 122) rfl rfl (by decide) (by decide) (by decide), ob_some]
      by_cases c : 97 ≤ gl tx q ∧ gl tx q ≤ 122
      · rw [if_pos c, if_neg ne10, if_pos c, show (1 : Int32) = nI 1 from rfl, nI_add, ob_some]
        exact ih n (q + 1) (by omega) (by omega) (by omega)
      · rw [if_neg c, if_pos rfl, if_neg c]
    · rw [if_pos (by rw [hle]; exact nI_le h (by omega)), if_neg (by rw [gl_off h]; omega)]
theorem m_L50 (F : Nat) {len : Int32} {signs : Nat → Int32} {typed : Int32} {text : Nat → Int32} {tx : List Nat} (hT : TxR len signs typed text tx) : ∀ (k n q : Nat), q ≤ tx.length → tx.length ≤ q + k → k < n → f_X6_plays_L50 F typed text n (nI q) = some (nI (rn tx 97 122 k q)) := by
  have h60 := hT.2.2.1
  intro k
  induction k with
  | zero =>
    intro n q h1 h2 hn
    obtain ⟨n, rfl⟩ : ∃ k, n = k + 1 := ⟨n - 1, by omega⟩
    rw [f_X6_plays_L50, m_isAt F hT (by omega) (lo := 97) (hi := 122) (a := 97) (b := 122) rfl rfl (by decide) (by decide) (by decide), ob_some, if_neg (show ¬ (97 ≤ gl tx q ∧ gl tx q ≤ 122) by rw [gl_off (show tx.length ≤ q by omega)]; omega), if_pos rfl]
    rfl
  | succ k ih =>
    intro n q h1 h2 hn
    obtain ⟨n, rfl⟩ : ∃ k, n = k + 1 := ⟨n - 1, by omega⟩
    rw [f_X6_plays_L50, rn, m_isAt F hT (by omega) (lo := 97) (hi := 122) (a := 97) (b := 122) rfl rfl (by decide) (by decide) (by decide), ob_some]
    by_cases c : 97 ≤ gl tx q ∧ gl tx q ≤ 122
    · have := gl_in (tx := tx) (i := q) (by omega)
      rw [if_pos c, if_neg ne10, if_pos c, show (1 : Int32) = nI 1 from rfl, nI_add, ob_some]
      exact ih n (q + 1) (by omega) (by omega) (by omega)
    · rw [if_neg c, if_pos rfl, if_neg c]
theorem nIc {x c : Nat} (hx : x ≤ 126) (hc : c < 200) : nI x = nI c ↔ x = c := nI_eq (by omega) (by omega)
abbrev wd0 (tx : List Nat) (a : Nat) : Prop := gl tx a = 114 ∧ gl tx (a + 1) = 111 ∧ gl tx (a + 2) = 119
theorem sp0 (F : Nat) {len : Int32} {signs : Nat → Int32} {typed : Int32} {text : Nat → Int32} {tx : List Nat} (hT : TxR len signs typed text tx) {a : Nat} (ha : a + 3 ≤ tx.length) : ∀ n, 3 < n → f_X2_spells_str0_L15 F len signs (nI a) n (0 : Int32) = some (if wd0 tx a then Sum.inr () else Sum.inl ()) := by
  intro n hn
  obtain ⟨n, rfl⟩ : ∃ k, n = k + 4 := ⟨n - 4, by omega⟩
  have g0 := tx_le hT a
  have s0 : ∀ n, f_X2_spells_str0_L15 F len signs (nI a) (n + 1) (nI 0) = if gl tx a = 114 then f_X2_spells_str0_L15 F len signs (nI a) n (nI 1) else some (Sum.inl ()) := by
    intro n
    rw [f_X2_spells_str0_L15, if_neg (show ¬ (3 : Int32) ≤ nI 0 by decide), nI_add, Nat.add_zero, c_sign F hT (by omega), ob_some, rd_ok _ (by decide) (by decide), ob_some, show sx_f 0 0 = nI 114 from by decide +kernel, show (1 : Int32) = nI 1 from rfl, nI_add, ob_some]
    by_cases c : gl tx a = 114
    · rw [if_pos ((nIc g0 (by decide)).mpr c), if_pos c]
    · rw [if_neg (fun z => c ((nIc g0 (by decide)).mp z)), if_neg c]
  have g1 := tx_le hT (a + 1)
  have s1 : ∀ n, f_X2_spells_str0_L15 F len signs (nI a) (n + 1) (nI 1) = if gl tx (a + 1) = 111 then f_X2_spells_str0_L15 F len signs (nI a) n (nI 2) else some (Sum.inl ()) := by
    intro n
    rw [f_X2_spells_str0_L15, if_neg (show ¬ (3 : Int32) ≤ nI 1 by decide), nI_add, c_sign F hT (by omega), ob_some, rd_ok _ (by decide) (by decide), ob_some, show sx_f 0 1 = nI 111 from by decide +kernel, show (1 : Int32) = nI 1 from rfl, nI_add, ob_some]
    by_cases c : gl tx (a + 1) = 111
    · rw [if_pos ((nIc g1 (by decide)).mpr c), if_pos c]
    · rw [if_neg (fun z => c ((nIc g1 (by decide)).mp z)), if_neg c]
  have g2 := tx_le hT (a + 2)
  have s2 : ∀ n, f_X2_spells_str0_L15 F len signs (nI a) (n + 1) (nI 2) = if gl tx (a + 2) = 119 then f_X2_spells_str0_L15 F len signs (nI a) n (nI 3) else some (Sum.inl ()) := by
    intro n
    rw [f_X2_spells_str0_L15, if_neg (show ¬ (3 : Int32) ≤ nI 2 by decide), nI_add, c_sign F hT (by omega), ob_some, rd_ok _ (by decide) (by decide), ob_some, show sx_f 0 2 = nI 119 from by decide +kernel, show (1 : Int32) = nI 1 from rfl, nI_add, ob_some]
    by_cases c : gl tx (a + 2) = 119
    · rw [if_pos ((nIc g2 (by decide)).mpr c), if_pos c]
    · rw [if_neg (fun z => c ((nIc g2 (by decide)).mp z)), if_neg c]
  show f_X2_spells_str0_L15 F len signs (nI a) (n + 4) (nI 0) = _
  rw [s0]
  by_cases c0 : gl tx a = 114
  rotate_left
  · rw [if_neg c0, if_neg (fun z => c0 z.1)]
  rw [if_pos c0]
  rw [s1]
  by_cases c1 : gl tx (a + 1) = 111
  rotate_left
  · rw [if_neg c1, if_neg (fun z => c1 z.2.1)]
  rw [if_pos c1]
  rw [s2]
  by_cases c2 : gl tx (a + 2) = 119
  rotate_left
  · rw [if_neg c2, if_neg (fun z => c2 z.2.2)]
  rw [if_pos c2]
  rw [f_X2_spells_str0_L15, if_pos (show (3 : Int32) ≤ nI 3 by decide), if_pos ⟨c0, c1, c2⟩]
theorem c_sp0 {F : Nat} (hF : 1100000 ≤ F) {len : Int32} {signs : Nat → Int32} {typed : Int32} {text : Nat → Int32} {tx : List Nat} (hT : TxR len signs typed text tx) {a e : Nat} (hae : a ≤ e) (he : e ≤ tx.length) : f_X2_spells_str0 F len signs (nI a) (nI e) = some (if e = a + 3 ∧ wd0 tx a then 1 else 0) := by
  have h60 := hT.2.2.1
  unfold f_X2_spells_str0
  rw [nI_sub hae]
  by_cases h : e = a + 3
  · rw [if_pos (show nI (e - a) = (3 : Int32) by rw [h, Nat.add_sub_cancel_left]; rfl), sp0 F hT (by omega) F (by omega), ob_some]
    by_cases c : wd0 tx a
    · rw [if_pos c, if_pos ⟨h, c⟩]; rfl
    · rw [if_neg c, if_neg (fun z => c z.2)]; rfl
  · rw [if_neg (show ¬ nI (e - a) = (3 : Int32) from nIlit (m := 3) (by omega) (by decide) (by omega)), if_neg (fun z => h z.1)]
theorem m_sp0 (F : Nat) {len : Int32} {signs : Nat → Int32} {typed : Int32} {text : Nat → Int32} {tx : List Nat} (hT : TxR len signs typed text tx) {a e : Nat} (hae : a ≤ e) (he : e ≤ tx.length) : f_X6_isWord F (nI e) text (nI a) (114 : Int32) (111 : Int32) (119 : Int32) (0 : Int32) (0 : Int32) = some (if e = a + 3 ∧ wd0 tx a then 1 else 0) := by
  have h60 := hT.2.2.1
  have hx := hT.2.2.2
  have hle := tx_le hT
  unfold f_X6_isWord
  rw [if_pos (show (0 : Int32) ≤ 0 by decide), if_pos (show (0 : Int32) ≤ 0 by decide), ob_some, nI_sub hae]
  by_cases h : e = a + 3
  rotate_left
  · rw [if_neg (show ¬ nI (e - a) = (3 : Int32) from nIlit (m := 3) (by omega) (by decide) (by omega)), ob_some, if_pos rfl, ob_some, ckz0, ob_some, if_neg (fun z => h z.1)]
  rw [if_pos (show nI (e - a) = (3 : Int32) by rw [h, Nat.add_sub_cancel_left]; rfl), rd_ok _ (show a < 60 by omega) (by decide), ob_some, (hx a (by omega)).2.1]
  by_cases c0 : gl tx a = 114
  rotate_left
  · rw [if_neg (show ¬ nI (gl tx a) = (114 : Int32) from fun z => c0 ((nIc (c := 114) (hle a) (by decide)).mp z)), ob_some, if_pos rfl, ob_some, ckz0, ob_some, if_neg (fun z => c0 z.2.1)]
  rw [if_pos (show nI (gl tx a) = (114 : Int32) by rw [c0]; rfl)]
  rw [show nI a + (1 : Int32) = nI (a + 1) from nI_add a 1, rd_ok _ (show a + 1 < 60 by omega) (by decide), ob_some, (hx (a + 1) (by omega)).2.1]
  by_cases c1 : gl tx (a + 1) = 111
  rotate_left
  · rw [if_neg (show ¬ nI (gl tx (a + 1)) = (111 : Int32) from fun z => c1 ((nIc (c := 111) (hle (a + 1)) (by decide)).mp z)), ob_some, if_pos rfl, ob_some, ckz0, ob_some, if_neg (fun z => c1 z.2.2.1)]
  rw [if_pos (show nI (gl tx (a + 1)) = (111 : Int32) by rw [c1]; rfl)]
  rw [show nI a + (2 : Int32) = nI (a + 2) from nI_add a 2, rd_ok _ (show a + 2 < 60 by omega) (by decide), ob_some, (hx (a + 2) (by omega)).2.1]
  by_cases c2 : gl tx (a + 2) = 119
  rotate_left
  · rw [if_neg (show ¬ nI (gl tx (a + 2)) = (119 : Int32) from fun z => c2 ((nIc (c := 119) (hle (a + 2)) (by decide)).mp z)), ob_some, if_pos rfl, ob_some, ckz0, ob_some, if_neg (fun z => c2 z.2.2.2)]
  rw [if_pos (show nI (gl tx (a + 2)) = (119 : Int32) by rw [c2]; rfl)]
  rw [ob_some, if_neg ne10, if_pos (show (3 : Int32) < 4 by decide), if_pos (show (3 : Int32) < 5 by decide), ob_some, ckz1, ob_some, if_pos ⟨h, c0, c1, c2⟩]
abbrev wd1 (tx : List Nat) (a : Nat) : Prop := gl tx a = 116 ∧ gl tx (a + 1) = 117 ∧ gl tx (a + 2) = 114 ∧ gl tx (a + 3) = 110
theorem sp1 (F : Nat) {len : Int32} {signs : Nat → Int32} {typed : Int32} {text : Nat → Int32} {tx : List Nat} (hT : TxR len signs typed text tx) {a : Nat} (ha : a + 4 ≤ tx.length) : ∀ n, 4 < n → f_X2_spells_str1_L15 F len signs (nI a) n (0 : Int32) = some (if wd1 tx a then Sum.inr () else Sum.inl ()) := by
  intro n hn
  obtain ⟨n, rfl⟩ : ∃ k, n = k + 5 := ⟨n - 5, by omega⟩
  have g0 := tx_le hT a
  have s0 : ∀ n, f_X2_spells_str1_L15 F len signs (nI a) (n + 1) (nI 0) = if gl tx a = 116 then f_X2_spells_str1_L15 F len signs (nI a) n (nI 1) else some (Sum.inl ()) := by
    intro n
    rw [f_X2_spells_str1_L15, if_neg (show ¬ (4 : Int32) ≤ nI 0 by decide), nI_add, Nat.add_zero, c_sign F hT (by omega), ob_some, rd_ok _ (by decide) (by decide), ob_some, show sx_f 1 0 = nI 116 from by decide +kernel, show (1 : Int32) = nI 1 from rfl, nI_add, ob_some]
    by_cases c : gl tx a = 116
    · rw [if_pos ((nIc g0 (by decide)).mpr c), if_pos c]
    · rw [if_neg (fun z => c ((nIc g0 (by decide)).mp z)), if_neg c]
  have g1 := tx_le hT (a + 1)
  have s1 : ∀ n, f_X2_spells_str1_L15 F len signs (nI a) (n + 1) (nI 1) = if gl tx (a + 1) = 117 then f_X2_spells_str1_L15 F len signs (nI a) n (nI 2) else some (Sum.inl ()) := by
    intro n
    rw [f_X2_spells_str1_L15, if_neg (show ¬ (4 : Int32) ≤ nI 1 by decide), nI_add, c_sign F hT (by omega), ob_some, rd_ok _ (by decide) (by decide), ob_some, show sx_f 1 1 = nI 117 from by decide +kernel, show (1 : Int32) = nI 1 from rfl, nI_add, ob_some]
    by_cases c : gl tx (a + 1) = 117
    · rw [if_pos ((nIc g1 (by decide)).mpr c), if_pos c]
    · rw [if_neg (fun z => c ((nIc g1 (by decide)).mp z)), if_neg c]
  have g2 := tx_le hT (a + 2)
  have s2 : ∀ n, f_X2_spells_str1_L15 F len signs (nI a) (n + 1) (nI 2) = if gl tx (a + 2) = 114 then f_X2_spells_str1_L15 F len signs (nI a) n (nI 3) else some (Sum.inl ()) := by
    intro n
    rw [f_X2_spells_str1_L15, if_neg (show ¬ (4 : Int32) ≤ nI 2 by decide), nI_add, c_sign F hT (by omega), ob_some, rd_ok _ (by decide) (by decide), ob_some, show sx_f 1 2 = nI 114 from by decide +kernel, show (1 : Int32) = nI 1 from rfl, nI_add, ob_some]
    by_cases c : gl tx (a + 2) = 114
    · rw [if_pos ((nIc g2 (by decide)).mpr c), if_pos c]
    · rw [if_neg (fun z => c ((nIc g2 (by decide)).mp z)), if_neg c]
  have g3 := tx_le hT (a + 3)
  have s3 : ∀ n, f_X2_spells_str1_L15 F len signs (nI a) (n + 1) (nI 3) = if gl tx (a + 3) = 110 then f_X2_spells_str1_L15 F len signs (nI a) n (nI 4) else some (Sum.inl ()) := by
    intro n
    rw [f_X2_spells_str1_L15, if_neg (show ¬ (4 : Int32) ≤ nI 3 by decide), nI_add, c_sign F hT (by omega), ob_some, rd_ok _ (by decide) (by decide), ob_some, show sx_f 1 3 = nI 110 from by decide +kernel, show (1 : Int32) = nI 1 from rfl, nI_add, ob_some]
    by_cases c : gl tx (a + 3) = 110
    · rw [if_pos ((nIc g3 (by decide)).mpr c), if_pos c]
    · rw [if_neg (fun z => c ((nIc g3 (by decide)).mp z)), if_neg c]
  show f_X2_spells_str1_L15 F len signs (nI a) (n + 5) (nI 0) = _
  rw [s0]
  by_cases c0 : gl tx a = 116
  rotate_left
  · rw [if_neg c0, if_neg (fun z => c0 z.1)]
  rw [if_pos c0]
  rw [s1]
  by_cases c1 : gl tx (a + 1) = 117
  rotate_left
  · rw [if_neg c1, if_neg (fun z => c1 z.2.1)]
  rw [if_pos c1]
  rw [s2]
  by_cases c2 : gl tx (a + 2) = 114
  rotate_left
  · rw [if_neg c2, if_neg (fun z => c2 z.2.2.1)]
  rw [if_pos c2]
  rw [s3]
  by_cases c3 : gl tx (a + 3) = 110
  rotate_left
  · rw [if_neg c3, if_neg (fun z => c3 z.2.2.2)]
  rw [if_pos c3]
  rw [f_X2_spells_str1_L15, if_pos (show (4 : Int32) ≤ nI 4 by decide), if_pos ⟨c0, c1, c2, c3⟩]
theorem c_sp1 {F : Nat} (hF : 1100000 ≤ F) {len : Int32} {signs : Nat → Int32} {typed : Int32} {text : Nat → Int32} {tx : List Nat} (hT : TxR len signs typed text tx) {a e : Nat} (hae : a ≤ e) (he : e ≤ tx.length) : f_X2_spells_str1 F len signs (nI a) (nI e) = some (if e = a + 4 ∧ wd1 tx a then 1 else 0) := by
  have h60 := hT.2.2.1
  unfold f_X2_spells_str1
  rw [nI_sub hae]
  by_cases h : e = a + 4
  · rw [if_pos (show nI (e - a) = (4 : Int32) by rw [h, Nat.add_sub_cancel_left]; rfl), sp1 F hT (by omega) F (by omega), ob_some]
    by_cases c : wd1 tx a
    · rw [if_pos c, if_pos ⟨h, c⟩]; rfl
    · rw [if_neg c, if_neg (fun z => c z.2)]; rfl
  · rw [if_neg (show ¬ nI (e - a) = (4 : Int32) from nIlit (m := 4) (by omega) (by decide) (by omega)), if_neg (fun z => h z.1)]
theorem m_sp1 (F : Nat) {len : Int32} {signs : Nat → Int32} {typed : Int32} {text : Nat → Int32} {tx : List Nat} (hT : TxR len signs typed text tx) {a e : Nat} (hae : a ≤ e) (he : e ≤ tx.length) : f_X6_isWord F (nI e) text (nI a) (116 : Int32) (117 : Int32) (114 : Int32) (110 : Int32) (0 : Int32) = some (if e = a + 4 ∧ wd1 tx a then 1 else 0) := by
  have h60 := hT.2.2.1
  have hx := hT.2.2.2
  have hle := tx_le hT
  unfold f_X6_isWord
  rw [if_pos (show (0 : Int32) ≤ 0 by decide), if_neg (show ¬ (110 : Int32) ≤ 0 by decide), ob_some, nI_sub hae]
  by_cases h : e = a + 4
  rotate_left
  · rw [if_neg (show ¬ nI (e - a) = (4 : Int32) from nIlit (m := 4) (by omega) (by decide) (by omega)), ob_some, if_pos rfl, ob_some, ckz0, ob_some, if_neg (fun z => h z.1)]
  rw [if_pos (show nI (e - a) = (4 : Int32) by rw [h, Nat.add_sub_cancel_left]; rfl), rd_ok _ (show a < 60 by omega) (by decide), ob_some, (hx a (by omega)).2.1]
  by_cases c0 : gl tx a = 116
  rotate_left
  · rw [if_neg (show ¬ nI (gl tx a) = (116 : Int32) from fun z => c0 ((nIc (c := 116) (hle a) (by decide)).mp z)), ob_some, if_pos rfl, ob_some, ckz0, ob_some, if_neg (fun z => c0 z.2.1)]
  rw [if_pos (show nI (gl tx a) = (116 : Int32) by rw [c0]; rfl)]
  rw [show nI a + (1 : Int32) = nI (a + 1) from nI_add a 1, rd_ok _ (show a + 1 < 60 by omega) (by decide), ob_some, (hx (a + 1) (by omega)).2.1]
  by_cases c1 : gl tx (a + 1) = 117
  rotate_left
  · rw [if_neg (show ¬ nI (gl tx (a + 1)) = (117 : Int32) from fun z => c1 ((nIc (c := 117) (hle (a + 1)) (by decide)).mp z)), ob_some, if_pos rfl, ob_some, ckz0, ob_some, if_neg (fun z => c1 z.2.2.1)]
  rw [if_pos (show nI (gl tx (a + 1)) = (117 : Int32) by rw [c1]; rfl)]
  rw [show nI a + (2 : Int32) = nI (a + 2) from nI_add a 2, rd_ok _ (show a + 2 < 60 by omega) (by decide), ob_some, (hx (a + 2) (by omega)).2.1]
  by_cases c2 : gl tx (a + 2) = 114
  rotate_left
  · rw [if_neg (show ¬ nI (gl tx (a + 2)) = (114 : Int32) from fun z => c2 ((nIc (c := 114) (hle (a + 2)) (by decide)).mp z)), ob_some, if_pos rfl, ob_some, ckz0, ob_some, if_neg (fun z => c2 z.2.2.2.1)]
  rw [if_pos (show nI (gl tx (a + 2)) = (114 : Int32) by rw [c2]; rfl)]
  rw [ob_some, if_neg ne10, if_neg (show ¬ (4 : Int32) < 4 by decide), show nI a + (3 : Int32) = nI (a + 3) from nI_add a 3, rd_ok _ (show a + 3 < 60 by omega) (by decide), ob_some, (hx (a + 3) (by omega)).2.1]
  by_cases c3 : gl tx (a + 3) = 110
  rotate_left
  · rw [if_neg (show ¬ nI (gl tx (a + 3)) = (110 : Int32) from fun z => c3 ((nIc (c := 110) (hle (a + 3)) (by decide)).mp z)), ob_some, ckz0, ob_some, if_neg (fun z => c3 z.2.2.2.2)]
  rw [if_pos (show nI (gl tx (a + 3)) = (110 : Int32) by rw [c3]; rfl)]
  rw [if_pos (show (4 : Int32) < 5 by decide), ob_some, ckz1, ob_some, if_pos ⟨h, c0, c1, c2, c3⟩]
abbrev wd2 (tx : List Nat) (a : Nat) : Prop := gl tx a = 110 ∧ gl tx (a + 1) = 101 ∧ gl tx (a + 2) = 120 ∧ gl tx (a + 3) = 116
theorem sp2 (F : Nat) {len : Int32} {signs : Nat → Int32} {typed : Int32} {text : Nat → Int32} {tx : List Nat} (hT : TxR len signs typed text tx) {a : Nat} (ha : a + 4 ≤ tx.length) : ∀ n, 4 < n → f_X2_spells_str2_L15 F len signs (nI a) n (0 : Int32) = some (if wd2 tx a then Sum.inr () else Sum.inl ()) := by
  intro n hn
  obtain ⟨n, rfl⟩ : ∃ k, n = k + 5 := ⟨n - 5, by omega⟩
  have g0 := tx_le hT a
  have s0 : ∀ n, f_X2_spells_str2_L15 F len signs (nI a) (n + 1) (nI 0) = if gl tx a = 110 then f_X2_spells_str2_L15 F len signs (nI a) n (nI 1) else some (Sum.inl ()) := by
    intro n
    rw [f_X2_spells_str2_L15, if_neg (show ¬ (4 : Int32) ≤ nI 0 by decide), nI_add, Nat.add_zero, c_sign F hT (by omega), ob_some, rd_ok _ (by decide) (by decide), ob_some, show sx_f 2 0 = nI 110 from by decide +kernel, show (1 : Int32) = nI 1 from rfl, nI_add, ob_some]
    by_cases c : gl tx a = 110
    · rw [if_pos ((nIc g0 (by decide)).mpr c), if_pos c]
    · rw [if_neg (fun z => c ((nIc g0 (by decide)).mp z)), if_neg c]
  have g1 := tx_le hT (a + 1)
  have s1 : ∀ n, f_X2_spells_str2_L15 F len signs (nI a) (n + 1) (nI 1) = if gl tx (a + 1) = 101 then f_X2_spells_str2_L15 F len signs (nI a) n (nI 2) else some (Sum.inl ()) := by
    intro n
    rw [f_X2_spells_str2_L15, if_neg (show ¬ (4 : Int32) ≤ nI 1 by decide), nI_add, c_sign F hT (by omega), ob_some, rd_ok _ (by decide) (by decide), ob_some, show sx_f 2 1 = nI 101 from by decide +kernel, show (1 : Int32) = nI 1 from rfl, nI_add, ob_some]
    by_cases c : gl tx (a + 1) = 101
    · rw [if_pos ((nIc g1 (by decide)).mpr c), if_pos c]
    · rw [if_neg (fun z => c ((nIc g1 (by decide)).mp z)), if_neg c]
  have g2 := tx_le hT (a + 2)
  have s2 : ∀ n, f_X2_spells_str2_L15 F len signs (nI a) (n + 1) (nI 2) = if gl tx (a + 2) = 120 then f_X2_spells_str2_L15 F len signs (nI a) n (nI 3) else some (Sum.inl ()) := by
    intro n
    rw [f_X2_spells_str2_L15, if_neg (show ¬ (4 : Int32) ≤ nI 2 by decide), nI_add, c_sign F hT (by omega), ob_some, rd_ok _ (by decide) (by decide), ob_some, show sx_f 2 2 = nI 120 from by decide +kernel, show (1 : Int32) = nI 1 from rfl, nI_add, ob_some]
    by_cases c : gl tx (a + 2) = 120
    · rw [if_pos ((nIc g2 (by decide)).mpr c), if_pos c]
    · rw [if_neg (fun z => c ((nIc g2 (by decide)).mp z)), if_neg c]
  have g3 := tx_le hT (a + 3)
  have s3 : ∀ n, f_X2_spells_str2_L15 F len signs (nI a) (n + 1) (nI 3) = if gl tx (a + 3) = 116 then f_X2_spells_str2_L15 F len signs (nI a) n (nI 4) else some (Sum.inl ()) := by
    intro n
    rw [f_X2_spells_str2_L15, if_neg (show ¬ (4 : Int32) ≤ nI 3 by decide), nI_add, c_sign F hT (by omega), ob_some, rd_ok _ (by decide) (by decide), ob_some, show sx_f 2 3 = nI 116 from by decide +kernel, show (1 : Int32) = nI 1 from rfl, nI_add, ob_some]
    by_cases c : gl tx (a + 3) = 116
    · rw [if_pos ((nIc g3 (by decide)).mpr c), if_pos c]
    · rw [if_neg (fun z => c ((nIc g3 (by decide)).mp z)), if_neg c]
  show f_X2_spells_str2_L15 F len signs (nI a) (n + 5) (nI 0) = _
  rw [s0]
  by_cases c0 : gl tx a = 110
  rotate_left
  · rw [if_neg c0, if_neg (fun z => c0 z.1)]
  rw [if_pos c0]
  rw [s1]
  by_cases c1 : gl tx (a + 1) = 101
  rotate_left
  · rw [if_neg c1, if_neg (fun z => c1 z.2.1)]
  rw [if_pos c1]
  rw [s2]
  by_cases c2 : gl tx (a + 2) = 120
  rotate_left
  · rw [if_neg c2, if_neg (fun z => c2 z.2.2.1)]
  rw [if_pos c2]
  rw [s3]
  by_cases c3 : gl tx (a + 3) = 116
  rotate_left
  · rw [if_neg c3, if_neg (fun z => c3 z.2.2.2)]
  rw [if_pos c3]
  rw [f_X2_spells_str2_L15, if_pos (show (4 : Int32) ≤ nI 4 by decide), if_pos ⟨c0, c1, c2, c3⟩]
theorem c_sp2 {F : Nat} (hF : 1100000 ≤ F) {len : Int32} {signs : Nat → Int32} {typed : Int32} {text : Nat → Int32} {tx : List Nat} (hT : TxR len signs typed text tx) {a e : Nat} (hae : a ≤ e) (he : e ≤ tx.length) : f_X2_spells_str2 F len signs (nI a) (nI e) = some (if e = a + 4 ∧ wd2 tx a then 1 else 0) := by
  have h60 := hT.2.2.1
  unfold f_X2_spells_str2
  rw [nI_sub hae]
  by_cases h : e = a + 4
  · rw [if_pos (show nI (e - a) = (4 : Int32) by rw [h, Nat.add_sub_cancel_left]; rfl), sp2 F hT (by omega) F (by omega), ob_some]
    by_cases c : wd2 tx a
    · rw [if_pos c, if_pos ⟨h, c⟩]; rfl
    · rw [if_neg c, if_neg (fun z => c z.2)]; rfl
  · rw [if_neg (show ¬ nI (e - a) = (4 : Int32) from nIlit (m := 4) (by omega) (by decide) (by omega)), if_neg (fun z => h z.1)]
theorem m_sp2 (F : Nat) {len : Int32} {signs : Nat → Int32} {typed : Int32} {text : Nat → Int32} {tx : List Nat} (hT : TxR len signs typed text tx) {a e : Nat} (hae : a ≤ e) (he : e ≤ tx.length) : f_X6_isWord F (nI e) text (nI a) (110 : Int32) (101 : Int32) (120 : Int32) (116 : Int32) (0 : Int32) = some (if e = a + 4 ∧ wd2 tx a then 1 else 0) := by
  have h60 := hT.2.2.1
  have hx := hT.2.2.2
  have hle := tx_le hT
  unfold f_X6_isWord
  rw [if_pos (show (0 : Int32) ≤ 0 by decide), if_neg (show ¬ (116 : Int32) ≤ 0 by decide), ob_some, nI_sub hae]
  by_cases h : e = a + 4
  rotate_left
  · rw [if_neg (show ¬ nI (e - a) = (4 : Int32) from nIlit (m := 4) (by omega) (by decide) (by omega)), ob_some, if_pos rfl, ob_some, ckz0, ob_some, if_neg (fun z => h z.1)]
  rw [if_pos (show nI (e - a) = (4 : Int32) by rw [h, Nat.add_sub_cancel_left]; rfl), rd_ok _ (show a < 60 by omega) (by decide), ob_some, (hx a (by omega)).2.1]
  by_cases c0 : gl tx a = 110
  rotate_left
  · rw [if_neg (show ¬ nI (gl tx a) = (110 : Int32) from fun z => c0 ((nIc (c := 110) (hle a) (by decide)).mp z)), ob_some, if_pos rfl, ob_some, ckz0, ob_some, if_neg (fun z => c0 z.2.1)]
  rw [if_pos (show nI (gl tx a) = (110 : Int32) by rw [c0]; rfl)]
  rw [show nI a + (1 : Int32) = nI (a + 1) from nI_add a 1, rd_ok _ (show a + 1 < 60 by omega) (by decide), ob_some, (hx (a + 1) (by omega)).2.1]
  by_cases c1 : gl tx (a + 1) = 101
  rotate_left
  · rw [if_neg (show ¬ nI (gl tx (a + 1)) = (101 : Int32) from fun z => c1 ((nIc (c := 101) (hle (a + 1)) (by decide)).mp z)), ob_some, if_pos rfl, ob_some, ckz0, ob_some, if_neg (fun z => c1 z.2.2.1)]
  rw [if_pos (show nI (gl tx (a + 1)) = (101 : Int32) by rw [c1]; rfl)]
  rw [show nI a + (2 : Int32) = nI (a + 2) from nI_add a 2, rd_ok _ (show a + 2 < 60 by omega) (by decide), ob_some, (hx (a + 2) (by omega)).2.1]
  by_cases c2 : gl tx (a + 2) = 120
  rotate_left
  · rw [if_neg (show ¬ nI (gl tx (a + 2)) = (120 : Int32) from fun z => c2 ((nIc (c := 120) (hle (a + 2)) (by decide)).mp z)), ob_some, if_pos rfl, ob_some, ckz0, ob_some, if_neg (fun z => c2 z.2.2.2.1)]
  rw [if_pos (show nI (gl tx (a + 2)) = (120 : Int32) by rw [c2]; rfl)]
  rw [ob_some, if_neg ne10, if_neg (show ¬ (4 : Int32) < 4 by decide), show nI a + (3 : Int32) = nI (a + 3) from nI_add a 3, rd_ok _ (show a + 3 < 60 by omega) (by decide), ob_some, (hx (a + 3) (by omega)).2.1]
  by_cases c3 : gl tx (a + 3) = 116
  rotate_left
  · rw [if_neg (show ¬ nI (gl tx (a + 3)) = (116 : Int32) from fun z => c3 ((nIc (c := 116) (hle (a + 3)) (by decide)).mp z)), ob_some, ckz0, ob_some, if_neg (fun z => c3 z.2.2.2.2)]
  rw [if_pos (show nI (gl tx (a + 3)) = (116 : Int32) by rw [c3]; rfl)]
  rw [if_pos (show (4 : Int32) < 5 by decide), ob_some, ckz1, ob_some, if_pos ⟨h, c0, c1, c2, c3⟩]
abbrev wd3 (tx : List Nat) (a : Nat) : Prop := gl tx a = 112 ∧ gl tx (a + 1) = 108 ∧ gl tx (a + 2) = 97 ∧ gl tx (a + 3) = 99 ∧ gl tx (a + 4) = 101
theorem sp3 (F : Nat) {len : Int32} {signs : Nat → Int32} {typed : Int32} {text : Nat → Int32} {tx : List Nat} (hT : TxR len signs typed text tx) {a : Nat} (ha : a + 5 ≤ tx.length) : ∀ n, 5 < n → f_X2_spells_str3_L15 F len signs (nI a) n (0 : Int32) = some (if wd3 tx a then Sum.inr () else Sum.inl ()) := by
  intro n hn
  obtain ⟨n, rfl⟩ : ∃ k, n = k + 6 := ⟨n - 6, by omega⟩
  have g0 := tx_le hT a
  have s0 : ∀ n, f_X2_spells_str3_L15 F len signs (nI a) (n + 1) (nI 0) = if gl tx a = 112 then f_X2_spells_str3_L15 F len signs (nI a) n (nI 1) else some (Sum.inl ()) := by
    intro n
    rw [f_X2_spells_str3_L15, if_neg (show ¬ (5 : Int32) ≤ nI 0 by decide), nI_add, Nat.add_zero, c_sign F hT (by omega), ob_some, rd_ok _ (by decide) (by decide), ob_some, show sx_f 3 0 = nI 112 from by decide +kernel, show (1 : Int32) = nI 1 from rfl, nI_add, ob_some]
    by_cases c : gl tx a = 112
    · rw [if_pos ((nIc g0 (by decide)).mpr c), if_pos c]
    · rw [if_neg (fun z => c ((nIc g0 (by decide)).mp z)), if_neg c]
  have g1 := tx_le hT (a + 1)
  have s1 : ∀ n, f_X2_spells_str3_L15 F len signs (nI a) (n + 1) (nI 1) = if gl tx (a + 1) = 108 then f_X2_spells_str3_L15 F len signs (nI a) n (nI 2) else some (Sum.inl ()) := by
    intro n
    rw [f_X2_spells_str3_L15, if_neg (show ¬ (5 : Int32) ≤ nI 1 by decide), nI_add, c_sign F hT (by omega), ob_some, rd_ok _ (by decide) (by decide), ob_some, show sx_f 3 1 = nI 108 from by decide +kernel, show (1 : Int32) = nI 1 from rfl, nI_add, ob_some]
    by_cases c : gl tx (a + 1) = 108
    · rw [if_pos ((nIc g1 (by decide)).mpr c), if_pos c]
    · rw [if_neg (fun z => c ((nIc g1 (by decide)).mp z)), if_neg c]
  have g2 := tx_le hT (a + 2)
  have s2 : ∀ n, f_X2_spells_str3_L15 F len signs (nI a) (n + 1) (nI 2) = if gl tx (a + 2) = 97 then f_X2_spells_str3_L15 F len signs (nI a) n (nI 3) else some (Sum.inl ()) := by
    intro n
    rw [f_X2_spells_str3_L15, if_neg (show ¬ (5 : Int32) ≤ nI 2 by decide), nI_add, c_sign F hT (by omega), ob_some, rd_ok _ (by decide) (by decide), ob_some, show sx_f 3 2 = nI 97 from by decide +kernel, show (1 : Int32) = nI 1 from rfl, nI_add, ob_some]
    by_cases c : gl tx (a + 2) = 97
    · rw [if_pos ((nIc g2 (by decide)).mpr c), if_pos c]
    · rw [if_neg (fun z => c ((nIc g2 (by decide)).mp z)), if_neg c]
  have g3 := tx_le hT (a + 3)
  have s3 : ∀ n, f_X2_spells_str3_L15 F len signs (nI a) (n + 1) (nI 3) = if gl tx (a + 3) = 99 then f_X2_spells_str3_L15 F len signs (nI a) n (nI 4) else some (Sum.inl ()) := by
    intro n
    rw [f_X2_spells_str3_L15, if_neg (show ¬ (5 : Int32) ≤ nI 3 by decide), nI_add, c_sign F hT (by omega), ob_some, rd_ok _ (by decide) (by decide), ob_some, show sx_f 3 3 = nI 99 from by decide +kernel, show (1 : Int32) = nI 1 from rfl, nI_add, ob_some]
    by_cases c : gl tx (a + 3) = 99
    · rw [if_pos ((nIc g3 (by decide)).mpr c), if_pos c]
    · rw [if_neg (fun z => c ((nIc g3 (by decide)).mp z)), if_neg c]
  have g4 := tx_le hT (a + 4)
  have s4 : ∀ n, f_X2_spells_str3_L15 F len signs (nI a) (n + 1) (nI 4) = if gl tx (a + 4) = 101 then f_X2_spells_str3_L15 F len signs (nI a) n (nI 5) else some (Sum.inl ()) := by
    intro n
    rw [f_X2_spells_str3_L15, if_neg (show ¬ (5 : Int32) ≤ nI 4 by decide), nI_add, c_sign F hT (by omega), ob_some, rd_ok _ (by decide) (by decide), ob_some, show sx_f 3 4 = nI 101 from by decide +kernel, show (1 : Int32) = nI 1 from rfl, nI_add, ob_some]
    by_cases c : gl tx (a + 4) = 101
    · rw [if_pos ((nIc g4 (by decide)).mpr c), if_pos c]
    · rw [if_neg (fun z => c ((nIc g4 (by decide)).mp z)), if_neg c]
  show f_X2_spells_str3_L15 F len signs (nI a) (n + 6) (nI 0) = _
  rw [s0]
  by_cases c0 : gl tx a = 112
  rotate_left
  · rw [if_neg c0, if_neg (fun z => c0 z.1)]
  rw [if_pos c0]
  rw [s1]
  by_cases c1 : gl tx (a + 1) = 108
  rotate_left
  · rw [if_neg c1, if_neg (fun z => c1 z.2.1)]
  rw [if_pos c1]
  rw [s2]
  by_cases c2 : gl tx (a + 2) = 97
  rotate_left
  · rw [if_neg c2, if_neg (fun z => c2 z.2.2.1)]
  rw [if_pos c2]
  rw [s3]
  by_cases c3 : gl tx (a + 3) = 99
  rotate_left
  · rw [if_neg c3, if_neg (fun z => c3 z.2.2.2.1)]
  rw [if_pos c3]
  rw [s4]
  by_cases c4 : gl tx (a + 4) = 101
  rotate_left
  · rw [if_neg c4, if_neg (fun z => c4 z.2.2.2.2)]
  rw [if_pos c4]
  rw [f_X2_spells_str3_L15, if_pos (show (5 : Int32) ≤ nI 5 by decide), if_pos ⟨c0, c1, c2, c3, c4⟩]
theorem c_sp3 {F : Nat} (hF : 1100000 ≤ F) {len : Int32} {signs : Nat → Int32} {typed : Int32} {text : Nat → Int32} {tx : List Nat} (hT : TxR len signs typed text tx) {a e : Nat} (hae : a ≤ e) (he : e ≤ tx.length) : f_X2_spells_str3 F len signs (nI a) (nI e) = some (if e = a + 5 ∧ wd3 tx a then 1 else 0) := by
  have h60 := hT.2.2.1
  unfold f_X2_spells_str3
  rw [nI_sub hae]
  by_cases h : e = a + 5
  · rw [if_pos (show nI (e - a) = (5 : Int32) by rw [h, Nat.add_sub_cancel_left]; rfl), sp3 F hT (by omega) F (by omega), ob_some]
    by_cases c : wd3 tx a
    · rw [if_pos c, if_pos ⟨h, c⟩]; rfl
    · rw [if_neg c, if_neg (fun z => c z.2)]; rfl
  · rw [if_neg (show ¬ nI (e - a) = (5 : Int32) from nIlit (m := 5) (by omega) (by decide) (by omega)), if_neg (fun z => h z.1)]
theorem m_sp3 (F : Nat) {len : Int32} {signs : Nat → Int32} {typed : Int32} {text : Nat → Int32} {tx : List Nat} (hT : TxR len signs typed text tx) {a e : Nat} (hae : a ≤ e) (he : e ≤ tx.length) : f_X6_isWord F (nI e) text (nI a) (112 : Int32) (108 : Int32) (97 : Int32) (99 : Int32) (101 : Int32) = some (if e = a + 5 ∧ wd3 tx a then 1 else 0) := by
  have h60 := hT.2.2.1
  have hx := hT.2.2.2
  have hle := tx_le hT
  unfold f_X6_isWord
  rw [if_neg (show ¬ (101 : Int32) ≤ 0 by decide), ob_some, nI_sub hae]
  by_cases h : e = a + 5
  rotate_left
  · rw [if_neg (show ¬ nI (e - a) = (5 : Int32) from nIlit (m := 5) (by omega) (by decide) (by omega)), ob_some, if_pos rfl, ob_some, ckz0, ob_some, if_neg (fun z => h z.1)]
  rw [if_pos (show nI (e - a) = (5 : Int32) by rw [h, Nat.add_sub_cancel_left]; rfl), rd_ok _ (show a < 60 by omega) (by decide), ob_some, (hx a (by omega)).2.1]
  by_cases c0 : gl tx a = 112
  rotate_left
  · rw [if_neg (show ¬ nI (gl tx a) = (112 : Int32) from fun z => c0 ((nIc (c := 112) (hle a) (by decide)).mp z)), ob_some, if_pos rfl, ob_some, ckz0, ob_some, if_neg (fun z => c0 z.2.1)]
  rw [if_pos (show nI (gl tx a) = (112 : Int32) by rw [c0]; rfl)]
  rw [show nI a + (1 : Int32) = nI (a + 1) from nI_add a 1, rd_ok _ (show a + 1 < 60 by omega) (by decide), ob_some, (hx (a + 1) (by omega)).2.1]
  by_cases c1 : gl tx (a + 1) = 108
  rotate_left
  · rw [if_neg (show ¬ nI (gl tx (a + 1)) = (108 : Int32) from fun z => c1 ((nIc (c := 108) (hle (a + 1)) (by decide)).mp z)), ob_some, if_pos rfl, ob_some, ckz0, ob_some, if_neg (fun z => c1 z.2.2.1)]
  rw [if_pos (show nI (gl tx (a + 1)) = (108 : Int32) by rw [c1]; rfl)]
  rw [show nI a + (2 : Int32) = nI (a + 2) from nI_add a 2, rd_ok _ (show a + 2 < 60 by omega) (by decide), ob_some, (hx (a + 2) (by omega)).2.1]
  by_cases c2 : gl tx (a + 2) = 97
  rotate_left
  · rw [if_neg (show ¬ nI (gl tx (a + 2)) = (97 : Int32) from fun z => c2 ((nIc (c := 97) (hle (a + 2)) (by decide)).mp z)), ob_some, if_pos rfl, ob_some, ckz0, ob_some, if_neg (fun z => c2 z.2.2.2.1)]
  rw [if_pos (show nI (gl tx (a + 2)) = (97 : Int32) by rw [c2]; rfl)]
  rw [ob_some, if_neg ne10, if_neg (show ¬ (5 : Int32) < 4 by decide), show nI a + (3 : Int32) = nI (a + 3) from nI_add a 3, rd_ok _ (show a + 3 < 60 by omega) (by decide), ob_some, (hx (a + 3) (by omega)).2.1]
  by_cases c3 : gl tx (a + 3) = 99
  rotate_left
  · rw [if_neg (show ¬ nI (gl tx (a + 3)) = (99 : Int32) from fun z => c3 ((nIc (c := 99) (hle (a + 3)) (by decide)).mp z)), ob_some, ckz0, ob_some, if_neg (fun z => c3 z.2.2.2.2.1)]
  rw [if_pos (show nI (gl tx (a + 3)) = (99 : Int32) by rw [c3]; rfl)]
  rw [if_neg (show ¬ (5 : Int32) < 5 by decide), show nI a + (4 : Int32) = nI (a + 4) from nI_add a 4, rd_ok _ (show a + 4 < 60 by omega) (by decide), ob_some, (hx (a + 4) (by omega)).2.1]
  by_cases c4 : gl tx (a + 4) = 101
  rotate_left
  · rw [if_neg (show ¬ nI (gl tx (a + 4)) = (101 : Int32) from fun z => c4 ((nIc (c := 101) (hle (a + 4)) (by decide)).mp z)), ob_some, ckz0, ob_some, if_neg (fun z => c4 z.2.2.2.2.2)]
  rw [if_pos (show nI (gl tx (a + 4)) = (101 : Int32) by rw [c4]; rfl), ob_some, ckz1, ob_some, if_pos ⟨h, c0, c1, c2, c3, c4⟩]
abbrev wd4 (tx : List Nat) (a : Nat) : Prop := gl tx a = 107 ∧ gl tx (a + 1) = 101 ∧ gl tx (a + 2) = 101 ∧ gl tx (a + 3) = 112
theorem sp4 (F : Nat) {len : Int32} {signs : Nat → Int32} {typed : Int32} {text : Nat → Int32} {tx : List Nat} (hT : TxR len signs typed text tx) {a : Nat} (ha : a + 4 ≤ tx.length) : ∀ n, 4 < n → f_X2_spells_str4_L15 F len signs (nI a) n (0 : Int32) = some (if wd4 tx a then Sum.inr () else Sum.inl ()) := by
  intro n hn
  obtain ⟨n, rfl⟩ : ∃ k, n = k + 5 := ⟨n - 5, by omega⟩
  have g0 := tx_le hT a
  have s0 : ∀ n, f_X2_spells_str4_L15 F len signs (nI a) (n + 1) (nI 0) = if gl tx a = 107 then f_X2_spells_str4_L15 F len signs (nI a) n (nI 1) else some (Sum.inl ()) := by
    intro n
    rw [f_X2_spells_str4_L15, if_neg (show ¬ (4 : Int32) ≤ nI 0 by decide), nI_add, Nat.add_zero, c_sign F hT (by omega), ob_some, rd_ok _ (by decide) (by decide), ob_some, show sx_f 4 0 = nI 107 from by decide +kernel, show (1 : Int32) = nI 1 from rfl, nI_add, ob_some]
    by_cases c : gl tx a = 107
    · rw [if_pos ((nIc g0 (by decide)).mpr c), if_pos c]
    · rw [if_neg (fun z => c ((nIc g0 (by decide)).mp z)), if_neg c]
  have g1 := tx_le hT (a + 1)
  have s1 : ∀ n, f_X2_spells_str4_L15 F len signs (nI a) (n + 1) (nI 1) = if gl tx (a + 1) = 101 then f_X2_spells_str4_L15 F len signs (nI a) n (nI 2) else some (Sum.inl ()) := by
    intro n
    rw [f_X2_spells_str4_L15, if_neg (show ¬ (4 : Int32) ≤ nI 1 by decide), nI_add, c_sign F hT (by omega), ob_some, rd_ok _ (by decide) (by decide), ob_some, show sx_f 4 1 = nI 101 from by decide +kernel, show (1 : Int32) = nI 1 from rfl, nI_add, ob_some]
    by_cases c : gl tx (a + 1) = 101
    · rw [if_pos ((nIc g1 (by decide)).mpr c), if_pos c]
    · rw [if_neg (fun z => c ((nIc g1 (by decide)).mp z)), if_neg c]
  have g2 := tx_le hT (a + 2)
  have s2 : ∀ n, f_X2_spells_str4_L15 F len signs (nI a) (n + 1) (nI 2) = if gl tx (a + 2) = 101 then f_X2_spells_str4_L15 F len signs (nI a) n (nI 3) else some (Sum.inl ()) := by
    intro n
    rw [f_X2_spells_str4_L15, if_neg (show ¬ (4 : Int32) ≤ nI 2 by decide), nI_add, c_sign F hT (by omega), ob_some, rd_ok _ (by decide) (by decide), ob_some, show sx_f 4 2 = nI 101 from by decide +kernel, show (1 : Int32) = nI 1 from rfl, nI_add, ob_some]
    by_cases c : gl tx (a + 2) = 101
    · rw [if_pos ((nIc g2 (by decide)).mpr c), if_pos c]
    · rw [if_neg (fun z => c ((nIc g2 (by decide)).mp z)), if_neg c]
  have g3 := tx_le hT (a + 3)
  have s3 : ∀ n, f_X2_spells_str4_L15 F len signs (nI a) (n + 1) (nI 3) = if gl tx (a + 3) = 112 then f_X2_spells_str4_L15 F len signs (nI a) n (nI 4) else some (Sum.inl ()) := by
    intro n
    rw [f_X2_spells_str4_L15, if_neg (show ¬ (4 : Int32) ≤ nI 3 by decide), nI_add, c_sign F hT (by omega), ob_some, rd_ok _ (by decide) (by decide), ob_some, show sx_f 4 3 = nI 112 from by decide +kernel, show (1 : Int32) = nI 1 from rfl, nI_add, ob_some]
    by_cases c : gl tx (a + 3) = 112
    · rw [if_pos ((nIc g3 (by decide)).mpr c), if_pos c]
    · rw [if_neg (fun z => c ((nIc g3 (by decide)).mp z)), if_neg c]
  show f_X2_spells_str4_L15 F len signs (nI a) (n + 5) (nI 0) = _
  rw [s0]
  by_cases c0 : gl tx a = 107
  rotate_left
  · rw [if_neg c0, if_neg (fun z => c0 z.1)]
  rw [if_pos c0]
  rw [s1]
  by_cases c1 : gl tx (a + 1) = 101
  rotate_left
  · rw [if_neg c1, if_neg (fun z => c1 z.2.1)]
  rw [if_pos c1]
  rw [s2]
  by_cases c2 : gl tx (a + 2) = 101
  rotate_left
  · rw [if_neg c2, if_neg (fun z => c2 z.2.2.1)]
  rw [if_pos c2]
  rw [s3]
  by_cases c3 : gl tx (a + 3) = 112
  rotate_left
  · rw [if_neg c3, if_neg (fun z => c3 z.2.2.2)]
  rw [if_pos c3]
  rw [f_X2_spells_str4_L15, if_pos (show (4 : Int32) ≤ nI 4 by decide), if_pos ⟨c0, c1, c2, c3⟩]
theorem c_sp4 {F : Nat} (hF : 1100000 ≤ F) {len : Int32} {signs : Nat → Int32} {typed : Int32} {text : Nat → Int32} {tx : List Nat} (hT : TxR len signs typed text tx) {a e : Nat} (hae : a ≤ e) (he : e ≤ tx.length) : f_X2_spells_str4 F len signs (nI a) (nI e) = some (if e = a + 4 ∧ wd4 tx a then 1 else 0) := by
  have h60 := hT.2.2.1
  unfold f_X2_spells_str4
  rw [nI_sub hae]
  by_cases h : e = a + 4
  · rw [if_pos (show nI (e - a) = (4 : Int32) by rw [h, Nat.add_sub_cancel_left]; rfl), sp4 F hT (by omega) F (by omega), ob_some]
    by_cases c : wd4 tx a
    · rw [if_pos c, if_pos ⟨h, c⟩]; rfl
    · rw [if_neg c, if_neg (fun z => c z.2)]; rfl
  · rw [if_neg (show ¬ nI (e - a) = (4 : Int32) from nIlit (m := 4) (by omega) (by decide) (by omega)), if_neg (fun z => h z.1)]
theorem m_sp4 (F : Nat) {len : Int32} {signs : Nat → Int32} {typed : Int32} {text : Nat → Int32} {tx : List Nat} (hT : TxR len signs typed text tx) {a e : Nat} (hae : a ≤ e) (he : e ≤ tx.length) : f_X6_isWord F (nI e) text (nI a) (107 : Int32) (101 : Int32) (101 : Int32) (112 : Int32) (0 : Int32) = some (if e = a + 4 ∧ wd4 tx a then 1 else 0) := by
  have h60 := hT.2.2.1
  have hx := hT.2.2.2
  have hle := tx_le hT
  unfold f_X6_isWord
  rw [if_pos (show (0 : Int32) ≤ 0 by decide), if_neg (show ¬ (112 : Int32) ≤ 0 by decide), ob_some, nI_sub hae]
  by_cases h : e = a + 4
  rotate_left
  · rw [if_neg (show ¬ nI (e - a) = (4 : Int32) from nIlit (m := 4) (by omega) (by decide) (by omega)), ob_some, if_pos rfl, ob_some, ckz0, ob_some, if_neg (fun z => h z.1)]
  rw [if_pos (show nI (e - a) = (4 : Int32) by rw [h, Nat.add_sub_cancel_left]; rfl), rd_ok _ (show a < 60 by omega) (by decide), ob_some, (hx a (by omega)).2.1]
  by_cases c0 : gl tx a = 107
  rotate_left
  · rw [if_neg (show ¬ nI (gl tx a) = (107 : Int32) from fun z => c0 ((nIc (c := 107) (hle a) (by decide)).mp z)), ob_some, if_pos rfl, ob_some, ckz0, ob_some, if_neg (fun z => c0 z.2.1)]
  rw [if_pos (show nI (gl tx a) = (107 : Int32) by rw [c0]; rfl)]
  rw [show nI a + (1 : Int32) = nI (a + 1) from nI_add a 1, rd_ok _ (show a + 1 < 60 by omega) (by decide), ob_some, (hx (a + 1) (by omega)).2.1]
  by_cases c1 : gl tx (a + 1) = 101
  rotate_left
  · rw [if_neg (show ¬ nI (gl tx (a + 1)) = (101 : Int32) from fun z => c1 ((nIc (c := 101) (hle (a + 1)) (by decide)).mp z)), ob_some, if_pos rfl, ob_some, ckz0, ob_some, if_neg (fun z => c1 z.2.2.1)]
  rw [if_pos (show nI (gl tx (a + 1)) = (101 : Int32) by rw [c1]; rfl)]
  rw [show nI a + (2 : Int32) = nI (a + 2) from nI_add a 2, rd_ok _ (show a + 2 < 60 by omega) (by decide), ob_some, (hx (a + 2) (by omega)).2.1]
  by_cases c2 : gl tx (a + 2) = 101
  rotate_left
  · rw [if_neg (show ¬ nI (gl tx (a + 2)) = (101 : Int32) from fun z => c2 ((nIc (c := 101) (hle (a + 2)) (by decide)).mp z)), ob_some, if_pos rfl, ob_some, ckz0, ob_some, if_neg (fun z => c2 z.2.2.2.1)]
  rw [if_pos (show nI (gl tx (a + 2)) = (101 : Int32) by rw [c2]; rfl)]
  rw [ob_some, if_neg ne10, if_neg (show ¬ (4 : Int32) < 4 by decide), show nI a + (3 : Int32) = nI (a + 3) from nI_add a 3, rd_ok _ (show a + 3 < 60 by omega) (by decide), ob_some, (hx (a + 3) (by omega)).2.1]
  by_cases c3 : gl tx (a + 3) = 112
  rotate_left
  · rw [if_neg (show ¬ nI (gl tx (a + 3)) = (112 : Int32) from fun z => c3 ((nIc (c := 112) (hle (a + 3)) (by decide)).mp z)), ob_some, ckz0, ob_some, if_neg (fun z => c3 z.2.2.2.2)]
  rw [if_pos (show nI (gl tx (a + 3)) = (112 : Int32) by rw [c3]; rfl)]
  rw [if_pos (show (4 : Int32) < 5 by decide), ob_some, ckz1, ob_some, if_pos ⟨h, c0, c1, c2, c3⟩]
def wd (tx : List Nat) (a e : Nat) : Nat := if e = a + 3 ∧ wd0 tx a then 1 else if e = a + 4 ∧ wd1 tx a then 2 else if e = a + 4 ∧ wd2 tx a then 3 else if e = a + 5 ∧ wd3 tx a then 4 else if e = a + 4 ∧ wd4 tx a then 5 else 0
theorem c_word {F : Nat} (hF : 1100000 ≤ F) {len : Int32} {signs : Nat → Int32} {typed : Int32} {text : Nat → Int32} {tx : List Nat} (hT : TxR len signs typed text tx) {a e : Nat} (hae : a ≤ e) (he : e ≤ tx.length) : f_X2_wordBetween F len signs (nI a) (nI e) = some (nI (wd tx a e)) := by
  unfold f_X2_wordBetween wd
  rw [c_sp0 hF hT hae he, ob_some]
  by_cases h0 : e = a + 3 ∧ wd0 tx a
  · rw [if_pos h0, if_neg ne10, if_pos h0]; rfl
  rw [if_neg h0, if_pos rfl, if_neg h0, c_sp1 hF hT hae he, ob_some]
  by_cases h1 : e = a + 4 ∧ wd1 tx a
  · rw [if_pos h1, if_neg ne10, if_pos h1]; rfl
  rw [if_neg h1, if_pos rfl, if_neg h1, c_sp2 hF hT hae he, ob_some]
  by_cases h2 : e = a + 4 ∧ wd2 tx a
  · rw [if_pos h2, if_neg ne10, if_pos h2]; rfl
  rw [if_neg h2, if_pos rfl, if_neg h2, c_sp3 hF hT hae he, ob_some]
  by_cases h3 : e = a + 5 ∧ wd3 tx a
  · rw [if_pos h3, if_neg ne10, if_pos h3]; rfl
  rw [if_neg h3, if_pos rfl, if_neg h3, c_sp4 hF hT hae he, ob_some]
  by_cases h4 : e = a + 4 ∧ wd4 tx a
  · rw [if_pos h4, if_neg ne10, if_pos h4, ob_some]; rfl
  rw [if_neg h4, if_pos rfl, if_neg h4, ob_some]
  rfl
theorem m_word (F : Nat) {len : Int32} {signs : Nat → Int32} {typed : Int32} {text : Nat → Int32} {tx : List Nat} (hT : TxR len signs typed text tx) {a e : Nat} (hae : a ≤ e) (he : e ≤ tx.length) : f_X6_wordAt F (nI e) text (nI a) = some (if wd tx a e = 0 then -1000004 else nI (wd tx a e - 1)) := by
  unfold f_X6_wordAt wd
  rw [m_sp0 F hT hae he, ob_some]
  by_cases h0 : e = a + 3 ∧ wd0 tx a
  · simp only [if_pos h0, if_neg ne10]; rfl
  rw [if_neg h0, if_pos rfl, m_sp1 F hT hae he, ob_some]
  simp only [if_neg h0]
  by_cases h1 : e = a + 4 ∧ wd1 tx a
  · simp only [if_pos h1, if_neg ne10]; rfl
  rw [if_neg h1, if_pos rfl, m_sp2 F hT hae he, ob_some]
  simp only [if_neg h1]
  by_cases h2 : e = a + 4 ∧ wd2 tx a
  · simp only [if_pos h2, if_neg ne10]; rfl
  rw [if_neg h2, if_pos rfl, m_sp3 F hT hae he, ob_some]
  simp only [if_neg h2]
  by_cases h3 : e = a + 5 ∧ wd3 tx a
  · simp only [if_pos h3, if_neg ne10]; rfl
  rw [if_neg h3, if_pos rfl, m_sp4 F hT hae he, ob_some]
  simp only [if_neg h3]
  by_cases h4 : e = a + 4 ∧ wd4 tx a
  · simp only [if_pos h4, if_neg ne10]; rfl
  simp only [if_neg h4]
  rfl
