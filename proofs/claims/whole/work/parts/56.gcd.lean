theorem fb_holes : ∀ (m n : Nat) (f : Nat → Nat), (∀ i, i < n → f i < m) → (∀ i j, i < j → j < n → f i ≠ f j) → n ≤ m := by
  intro m
  induction m with
  | zero =>
    intro n f h1 _
    rcases Nat.eq_zero_or_pos n with h | h
    · omega
    · exact absurd (h1 0 h) (Nat.not_lt_zero _)
  | succ m ih =>
    intro n f h1 h2
    by_cases hx : ∃ i, i < n ∧ f i = m
    · obtain ⟨a, ha, hfa⟩ := hx
      have hg := ih (n - 1) (fun i => if i < a then f i else f (i + 1)) (by
        intro i hi
        by_cases q : i < a
        · simp only [if_pos q]
          have b1 := h1 i (by omega)
          have b2 := h2 i a q ha
          omega
        · simp only [if_neg q]
          have b1 := h1 (i + 1) (by omega)
          have b2 := h2 a (i + 1) (by omega) (by omega)
          omega) (by
        intro i j hij hj
        by_cases q : i < a
        · by_cases r : j < a
          · simp only [if_pos q, if_pos r]
            exact h2 i j hij (by omega)
          · simp only [if_pos q, if_neg r]
            exact h2 i (j + 1) (by omega) (by omega)
        · have r : ¬ j < a := by omega
          simp only [if_neg q, if_neg r]
          exact h2 (i + 1) (j + 1) (by omega) (by omega))
      omega
    · have hg := ih n f (fun i hi => by
        have b1 := h1 i hi
        have b2 : f i ≠ m := fun e => hx ⟨i, hi, e⟩
        omega) h2
      omega
/-- two of them in one place -/
theorem fb_twice {m n : Nat} {f : Nat → Nat} (h : ∀ i, i < n → f i < m) (hm : m < n) : ∃ i j, i < j ∧ j < n ∧ f i = f j := by
  refine Classical.byContradiction fun hx => ?_
  have := fb_holes m n f h (fun i j hij hj e => hx ⟨i, j, hij, hj, e⟩)
  omega
/-- as many as places, none twice: each place is taken -/
theorem fb_onto {n : Nat} {f : Nat → Nat} (h : ∀ i, i < n → f i < n) (h2 : ∀ i j, i < j → j < n → f i ≠ f j) {y : Nat} (hy : y < n) : ∃ i, i < n ∧ f i = y := by
  refine Classical.byContradiction fun hx => ?_
  have hne : ∀ i, i < n → f i ≠ y := fun i hi e => hx ⟨i, hi, e⟩
  have := fb_holes (n - 1) n (fun i => if f i < y then f i else f i - 1) (by
    intro i hi
    have b1 := h i hi
    have b2 := hne i hi
    by_cases q : f i < y
    · simp only [if_pos q]; omega
    · simp only [if_neg q]; omega) (by
    intro i j hij hj
    have b1 := hne i (by omega)
    have b2 := hne j hj
    have b3 := h2 i j hij hj
    by_cases q : f i < y
    · by_cases r : f j < y
      · simp only [if_pos q, if_pos r]; exact b3
      · simp only [if_pos q, if_neg r]; omega
    · by_cases r : f j < y
      · simp only [if_neg q, if_pos r]; omega
      · simp only [if_neg q, if_neg r]; omega)
  omega
theorem mod_half {a b : Nat} (hb : 0 < b) (h : a % b ≠ 0) : b % (a % b) * 2 < b := by
  have h1 := Nat.mod_lt a hb
  have h2 := Nat.mod_lt b (Nat.pos_of_ne_zero h)
  generalize a % b = m at h h1 h2 ⊢
  rcases Nat.lt_or_ge b (m * 2) with h3 | h3
  · have e : b % m = b - m := by
      rw [Nat.mod_eq_sub_mod (Nat.le_of_lt h1), Nat.mod_eq_of_lt (by omega)]
    omega
  · omega
theorem gcd_step (a b : Nat) : Nat.gcd a b = Nat.gcd b (a % b) := by
  rw [Nat.gcd_comm a b, Nat.gcd_rec b a, Nat.gcd_comm]
theorem s_cd (F : Nat) : ∀ (c a b k n : Nat), b < 2 ^ c → a < 2 ^ 20 → b < 2 ^ 20 → k + 2 * c + 1 ≤ 64 → 2 * c + 1 < n → f_X5_commonDivisor_L7 F n (nI a) (nI b) (nI k) = some (nI (Nat.gcd a b)) := by
  intro c
  induction c with
  | zero =>
    intro a b k n hb ha hb2 hk hn
    obtain rfl : b = 0 := by have : (2 : Nat) ^ 0 = 1 := rfl; omega
    obtain ⟨m, rfl⟩ : ∃ m, n = m + 1 := ⟨n - 1, by omega⟩
    rw [f_X5_commonDivisor_L7, if_neg (show ¬ (64 : Int32) ≤ nI k from nI_ge (b := 64) (by omega) (by decide)), if_pos (show nI 0 = (0 : Int32) from rfl), Nat.gcd_zero_right]
  | succ c ih =>
    intro a b k n hb ha hb2 hk hn
    obtain ⟨m, rfl⟩ : ∃ m, n = m + 1 := ⟨n - 1, by omega⟩
    rw [f_X5_commonDivisor_L7, if_neg (show ¬ (64 : Int32) ≤ nI k from nI_ge (b := 64) (by omega) (by decide))]
    by_cases h0 : b = 0
    · rw [if_pos (show nI b = (0 : Int32) by rw [h0]; rfl), h0, Nat.gcd_zero_right]
    · have hn0 : ¬ nI b = (0 : Int32) := nIlit (m := 0) (by omega) (by decide) h0
      have hlt := Nat.mod_lt a (Nat.pos_of_ne_zero h0)
      rw [if_neg hn0, show ckd (nI b) = some () from if_neg hn0, ob_some, nI_irem (by omega) (by omega) (by omega), ob_some, show (1 : Int32) = nI 1 from rfl, nI_add, ob_some, gcd_step]
      obtain ⟨m, rfl⟩ : ∃ m', m = m' + 1 := ⟨m - 1, by omega⟩
      rw [f_X5_commonDivisor_L7, if_neg (show ¬ (64 : Int32) ≤ nI (k + 1) from nI_ge (b := 64) (by omega) (by decide))]
      by_cases h1 : a % b = 0
      · rw [if_pos (show nI (a % b) = (0 : Int32) by rw [h1]; rfl), h1, Nat.gcd_zero_right]
      · have hn1 : ¬ nI (a % b) = (0 : Int32) := nIlit (m := 0) (by omega) (by decide) h1
        have hh := mod_half (Nat.pos_of_ne_zero h0) h1
        rw [if_neg hn1, show ckd (nI (a % b)) = some () from if_neg hn1, ob_some, nI_irem (by omega) (by omega) (by omega), ob_some, show (1 : Int32) = nI 1 from rfl, nI_add, ob_some, gcd_step]
        have hp : (2 : Nat) ^ (c + 1) = 2 ^ c * 2 := Nat.pow_succ 2 c
        exact ih (a % b) (b % (a % b)) (k + 1 + 1) m (by omega) (by omega) (by omega) (by omega) (by omega)
theorem s_c0 (F : Nat) : ∀ (b a n : Nat), a < 2 ^ 20 → b < 2 ^ 20 → b < n → f_X6_common0_L4 F n (nI a) (nI b) = some (nI (Nat.gcd a b)) := by
  intro b
  induction b using Nat.strongRecOn with
  | ind b ih =>
    intro a n ha hb hn
    obtain ⟨m, rfl⟩ : ∃ m, n = m + 1 := ⟨n - 1, by omega⟩
    rw [f_X6_common0_L4]
    by_cases h0 : b = 0
    · rw [if_pos (show nI b ≤ (0 : Int32) by rw [h0]; decide), h0, Nat.gcd_zero_right]
    · have hn0 : ¬ nI b = (0 : Int32) := nIlit (m := 0) (by omega) (by decide) h0
      have hlt := Nat.mod_lt a (Nat.pos_of_ne_zero h0)
      rw [if_neg (nI_nle (Nat.pos_of_ne_zero h0) (by omega)), show ckd (nI b) = some () from if_neg hn0, ob_some, nI_irem (by omega) (by omega) (by omega), ob_some, gcd_step]
      exact ih (a % b) hlt b m hb (by omega) (by omega)
theorem w1 (F : Nat) (x : Int32) : (f_X5_within F x 1 = some 0 ∧ f_X6_in F x 0 1 = some 0) ∨ (∃ j : Nat, j ≤ 1 ∧ x = nI j ∧ f_X5_within F x 1 = some 1 ∧ f_X6_in F x 0 1 = some 1) := w_cases F x (m := 1) (by decide)
theorem st_bias {F : Nat} (hF : 1100000 ≤ F) {x_pastStates : Int32} {x_now_row : Int32} {x_now_table : Int32} {x_now_kept : Int32} {x_now_book : Nat → Int32} {x_text_length : Int32} {x_text_signs : Nat → Int32} {p0_row : Int32} {p0_table : Int32} {p0_kept : Int32} {p0_book : Nat → Int32} {p1_row : Int32} {p1_table : Int32} {p1_kept : Int32} {p1_book : Nat → Int32} {p2_row : Int32} {p2_table : Int32} {p2_kept : Int32} {p2_book : Nat → Int32} {p3_row : Int32} {p3_table : Int32} {p3_kept : Int32} {p3_book : Nat → Int32} {m_pasts : Int32} {m_runs0 : Int32} {m_typed : Int32} {m_s : Nat → Int32} {m_past : Nat → Int32} {m_text : Nat → Int32} (h : Rel x_pastStates x_now_row x_now_table x_now_kept x_now_book x_text_length x_text_signs p0_row p0_table p0_kept p0_book p1_row p1_table p1_kept p1_book p2_row p2_table p2_kept p2_book p3_row p3_table p3_kept p3_book m_pasts m_runs0 m_typed m_s m_past m_text) (a1 : Int32) (a2 : Int32) (a3 : Int32) : ∃ rx rm, f_X5_bias F x_now_row a1 a2 a3 = some rx ∧ f_X6_bias F m_s a1 a2 a3 = some rm ∧ rx = rm ∧ Rel x_pastStates x_now_row x_now_table x_now_kept x_now_book x_text_length x_text_signs p0_row p0_table p0_kept p0_book p1_row p1_table p1_kept p1_book p2_row p2_table p2_kept p2_book p3_row p3_table p3_kept p3_book m_pasts m_runs0 m_typed m_s m_past m_text := by
  obtain ⟨⟨r, t, bk⟩, hs, tx, hC, hM, hH, hHM, rfl, hT⟩ := h
  have hr : RowOk r := hC.2.1
  have hl := hr.1
  have e3 : x_now_row = encR r := hC.1
  have e4 : m_s 0 = nI r.length := hM.1
  have key : ∃ v, f_X5_bias F x_now_row a1 a2 a3 = some v ∧ f_X6_bias F m_s a1 a2 a3 = some v := by
    unfold f_X5_bias f_X6_bias
    rcases c4 F a1 with ⟨e1, e2⟩ | ⟨a, ha, rfl, e1, e2⟩
    · rw [e1, e2, ob_some, ob_some, if_pos rfl, if_pos rfl]
      exact ⟨_, rfl, rfl⟩
    rcases c4 F a2 with ⟨f1, f2⟩ | ⟨b, hb, rfl, f1, f2⟩
    · rw [e1, e2, ob_some, ob_some, if_neg ne10, if_neg ne10, f1, f2, ob_some, ob_some, if_pos rfl, if_pos rfl]
      exact ⟨_, rfl, rfl⟩
    rcases w1 F a3 with ⟨g1, g2⟩ | ⟨c, hc, rfl, g1, g2⟩
    · rw [e1, e2, ob_some, ob_some, if_neg ne10, if_neg ne10, f1, f2, ob_some, ob_some, if_neg ne10, if_neg ne10, g1, g2, ob_some, ob_some, if_pos rfl, if_pos rfl]
      exact ⟨_, rfl, rfl⟩
    have la := letC_le r a
    have lb := letC_le r b
    have lp := pc_le r (4 * a + b)
    rw [e1, e2, ob_some, ob_some, if_neg ne10, if_neg ne10, f1, f2, ob_some, ob_some, if_neg ne10, if_neg ne10, g1, g2, ob_some, ob_some, if_neg ne10, if_neg ne10, e3, s_lettersIn hF hr ha, s_lettersIn hF hr hb, s_letters hF hM hr ha, s_letters hF hM hr hb, ob_some, ob_some, ob_some, ob_some, nI_mul]
    have hm : letC r a * letC r b ≤ 10 * 10 := Nat.mul_le_mul (by omega) (by omega)
    dsimp only
    by_cases za : letC r a = 0
    · rw [if_pos (show nI (letC r a * letC r b) = (0 : Int32) by rw [za, Nat.zero_mul]; rfl), if_pos (show nI (letC r a) = (0 : Int32) by rw [za]; rfl)]
      exact ⟨_, rfl, rfl⟩
    rw [if_neg (show ¬ nI (letC r a) = (0 : Int32) from nIlit (m := 0) (by omega) (by decide) za), ob_some]
    by_cases zb : letC r b = 0
    · rw [if_pos (show nI (letC r a * letC r b) = (0 : Int32) by rw [zb, Nat.mul_zero]; rfl), if_pos (show nI (letC r b) = (0 : Int32) by rw [zb]; rfl)]
      exact ⟨_, rfl, rfl⟩
    have hpos : 0 < letC r a * letC r b := Nat.mul_pos (Nat.pos_of_ne_zero za) (Nat.pos_of_ne_zero zb)
    have hp : pc r (4 * a + b) * r.length ≤ 9 * 10 := Nat.mul_le_mul (by omega) (by omega)
    rw [if_neg (show ¬ nI (letC r b) = (0 : Int32) from nIlit (m := 0) (by omega) (by decide) zb), if_neg (show ¬ nI (letC r a * letC r b) = (0 : Int32) from nIlit (m := 0) (by omega) (by decide) (by omega)), s_pairsIn hF hr ha hb, ob_some, s_lengthOf F hr, ob_some, nI_mul, ob_some]
    rw [show (4 : Int32) = nI 4 from rfl, nI_mul, nI_add, s_pairs hF hM hr (by omega), ob_some, rd0 _ (by decide) (by decide), ob_some, e4, nI_mul, ob_some, ob_some, ob_some]
    generalize hA : pc r (4 * a + b) * r.length = A at hp
    rw [nI_mul (letC r a), ob_some]
    generalize letC r a * letC r b = B at hm hpos
    have eg1 : f_X5_commonDivisor F (nI A) (nI B) = some (nI (Nat.gcd A B)) := by
      unfold f_X5_commonDivisor
      rw [show (0 : Int32) = nI 0 from rfl, s_cd F 7 A B 0 F (by omega) (by omega) (by omega) (by omega) (by omega), ob_some]
    have eg2 : f_X6_common0 F (nI B) (nI A) = some (nI (Nat.gcd A B)) := by
      unfold f_X6_common0
      rw [s_c0 F A B F (by omega) (by omega) (by omega), ob_some, Nat.gcd_comm]
    have hg : 0 < Nat.gcd A B := Nat.gcd_pos_of_pos_right A hpos
    have hg2 : Nat.gcd A B ≤ B := Nat.gcd_le_right A hpos
    rw [eg1, eg2, ob_some, ob_some, if_pos (show (1 : Int32) ≤ nI (Nat.gcd A B) from nI_le (a := 1) hg (by omega)), show ckd (nI (Nat.gcd A B)) = some () from if_neg (nIlit (m := 0) (by omega) (by decide) (by omega))]
    by_cases hc0 : nI c = (0 : Int32)
    · rw [if_pos hc0]
      exact ⟨_, rfl, rfl⟩
    · rw [if_neg hc0]
      exact ⟨_, rfl, rfl⟩
  obtain ⟨v, k1, k2⟩ := key
  exact ⟨v, v, k1, k2, rfl, (r, t, bk), hs, tx, hC, hM, hH, hHM, rfl, hT⟩
-- ===== the order of the pairs
theorem sumF_lt {f g : Nat → Nat} : ∀ (d k i0 : Nat), k ≤ i0 → i0 < k + d → (∀ i, k ≤ i → i < k + d → f i ≤ g i) → f i0 < g i0 → sumF f k d < sumF g k d
  | 0, _, _, h1, h2, _, _ => by omega
  | d + 1, k, i0, h1, h2, h, h3 => by
    have hle : ∀ (e k : Nat), (∀ i, k ≤ i → i < k + e → f i ≤ g i) → sumF f k e ≤ sumF g k e := by
      intro e
      induction e with
      | zero => intro k _; exact Nat.le_refl _
      | succ e ih =>
        intro k h
        have a := ih (k + 1) (fun i a b => h i (by omega) (by omega))
        have b := h k (Nat.le_refl _) (by omega)
        show f k + sumF f (k + 1) e ≤ g k + sumF g (k + 1) e
        omega
    show f k + sumF f (k + 1) d < g k + sumF g (k + 1) d
    by_cases e : i0 = k
    · subst e
      have := hle d (i0 + 1) (fun i a b => h i (by omega) (by omega))
      omega
    · have a := sumF_lt d (k + 1) i0 (by omega) (by omega) (fun i a b => h i (by omega) (by omega)) h3
      have b := h k (Nat.le_refl _) (by omega)
      omega
def bef (c : Nat → Nat) (o p : Nat) : Prop := c o > c p ∨ (o < p ∧ c o = c p)
theorem bef_irr {c : Nat → Nat} {p : Nat} (h : bef c p p) : False := by
  rcases h with h | h <;> omega
theorem bef_tr {c : Nat → Nat} {o p q : Nat} (h1 : bef c o p) (h2 : bef c p q) : bef c o q := by
  unfold bef at *
  omega
def rk (c : Nat → Nat) (p : Nat) : Nat := sumF (fun o => if c o > c p ∨ (o < p ∧ c o = c p) then 1 else 0) 0 16
theorem rk_lt {c : Nat → Nat} {p q : Nat} (hp : p < 16) (h : bef c p q) : rk c p < rk c q := by
  refine sumF_lt 16 0 p (Nat.zero_le _) (by omega) (fun o _ _ => ?_) ?_
  · by_cases e : bef c o p
    · rw [if_pos (show c o > c p ∨ (o < p ∧ c o = c p) from e), if_pos (show c o > c q ∨ (o < q ∧ c o = c q) from bef_tr e h)]
      exact Nat.le_refl 1
    · rw [if_neg (show ¬ (c o > c p ∨ (o < p ∧ c o = c p)) from e)]
      exact Nat.zero_le _
  · rw [if_neg (show ¬ (c p > c p ∨ (p < p ∧ c p = c p)) from bef_irr), if_pos (show c p > c q ∨ (p < q ∧ c p = c q) from h)]
    exact Nat.zero_lt_one
theorem rk_16 {c : Nat → Nat} {p : Nat} (hp : p < 16) : rk c p < 16 := by
  have h := sumF_lt (f := fun o => if c o > c p ∨ (o < p ∧ c o = c p) then 1 else 0) (g := fun _ => 1) 16 0 p (Nat.zero_le _) (by omega) (fun o _ _ => ind_le _) (by rw [if_neg (show ¬ (c p > c p ∨ (p < p ∧ c p = c p)) from bef_irr)]; exact Nat.zero_lt_one)
  exact h
theorem rk_inj {c : Nat → Nat} {p q : Nat} (hp : p < 16) (hq : q < 16) (h : rk c p = rk c q) : p = q := by
  rcases Nat.lt_trichotomy p q with h1 | h1 | h1
  · rcases Nat.lt_or_ge (c p) (c q) with h2 | h2
    · have := rk_lt hq (show bef c q p from Or.inl h2); omega
    · have := rk_lt hp (show bef c p q by unfold bef; omega); omega
  · exact h1
  · rcases Nat.lt_or_ge (c q) (c p) with h2 | h2
    · have := rk_lt hp (show bef c p q from Or.inl h2); omega
    · have := rk_lt hq (show bef c q p by unfold bef; omega); omega
theorem rk_onto (c : Nat → Nat) {y : Nat} (hy : y < 16) : ∃ p, p < 16 ∧ rk c p = y :=
  fb_onto (n := 16) (f := rk c) (fun i hi => rk_16 hi) (fun i j hij hj e => by have := rk_inj (by omega) hj e; omega) hy
theorem s_ahead {F : Nat} (hF : 1100000 ≤ F) {pcn : Nat → Int32} {c : Nat → Nat} (hc : ∀ k, k < 16 → pcn k = nI (c k) ∧ c k < 100) {p : Nat} (hp : p < 16) : f_X5_pairsAheadOf F pcn (nI p) (nI (c p)) = some (nI (rk c p)) := by
  obtain ⟨_, hcp⟩ := hc p hp
  have key := loop_sum (Lp := f_X5_pairsAheadOf_L5 F pcn (nI p) (nI (c p))) (N := 16) 0 (f := fun o => if c o > c p ∨ (o < p ∧ c o = c p) then 1 else 0) ?_ ?_ 16 F 0 0 (Nat.le_refl _) rfl (by omega) (by omega)
  · unfold f_X5_pairsAheadOf
    rw [show (0 : Int32) = nI 0 from rfl, key, ob_some, Nat.zero_add]
    rfl
  · intro n a k h1 h2
    rw [f_X5_pairsAheadOf_L5, if_pos (show (16 : Int32) ≤ nI k from nI_le h1 (by omega))]
  · intro n a k _ hk
    obtain ⟨hv, hck⟩ := hc k hk
    rw [f_X5_pairsAheadOf_L5, if_neg (show ¬ (16 : Int32) ≤ nI k from nI_ge hk (by decide)), rd_ok _ hk (by decide), ob_some, ob_some, hv]
    have e1 : (if nI (c k) = nI (c p) then some (1 : Int32) else some 0) = some (nI (if c k = c p then 1 else 0)) := by
      by_cases e : c k = c p
      · rw [if_pos (by rw [e]), if_pos e]; rfl
      · rw [if_neg (nIlit (by omega) (by omega) e), if_neg e]; rfl
    rw [e1]
    simp only [ob_some]
    by_cases g : c p < c k
    · rw [if_pos (nI_lt g (by omega)), if_pos (Or.inl g), ob_some, show (1 : Int32) = nI 1 from rfl, nI_add, nI_add]
    · rw [if_neg (nI_nlt (by omega) (by omega))]
      by_cases e : c k = c p
      · rw [if_pos e, if_neg (show ¬ nI 1 = (0 : Int32) from ne10)]
        by_cases hlt : k < p
        · rw [if_neg (nI_ge hlt (by omega)), if_pos (Or.inr ⟨hlt, e⟩), ob_some, show (1 : Int32) = nI 1 from rfl, nI_add, nI_add]
        · rw [if_pos (nI_le (by omega) (by omega)), if_neg (show ¬ (c k > c p ∨ (k < p ∧ c k = c p)) by omega), ob_some, show (1 : Int32) = nI 1 from rfl, nI_add]
          rfl
      · rw [if_neg e, if_pos (show nI 0 = (0 : Int32) from rfl), if_neg (show ¬ (c k > c p ∨ (k < p ∧ c k = c p)) by omega), ob_some, show (1 : Int32) = nI 1 from rfl, nI_add]
        rfl
theorem l22 {F : Nat} (hF : 1100000 ≤ F) {r : List Nat} (hr : RowOk r) (a0 : Nat → Int32) : f_X5_pairAt_L22 F (encR r) F (0 : Int32) a0 = some (fun j => if 0 ≤ j ∧ j < 0 + 16 then nI (pc r (j - 0)) else a0 j) := by
  refine loop_fill0 (Lp := f_X5_pairAt_L22 F (encR r)) (N := 16) (a := 0) (h := fun k => nI (pc r k)) a0 ?_ ?_ (by omega)
  · intro n g
    rw [f_X5_pairAt_L22, if_pos (show (16 : Int32) ≤ nI 16 from nI_le (a := 16) (b := 16) (by omega) (by decide))]
  · intro n k g hk hg
    rw [f_X5_pairAt_L22, if_neg (show ¬ (16 : Int32) ≤ nI k from nI_ge hk (by decide)), show (4 : Int32) = nI 4 from rfl, nI_div (by omega) (by decide) (by decide), nI_irem (by omega) (by decide) (by decide), s_pairsIn hF hr (by omega) (Nat.mod_lt _ (by decide)), ob_some, wr_ok _ _ hk (by decide), ob_some, show (1 : Int32) = nI 1 from rfl, nI_add, ob_some, Nat.zero_add, show 4 * (k / 4) + k % 4 = k by omega]
theorem l61 {F : Nat} (hF : 1100000 ≤ F) {pcn : Nat → Int32} {c : Nat → Nat} (hc : ∀ k, k < 16 → pcn k = nI (c k) ∧ c k < 100) {y p : Nat} (hp : p < 16) (hy : rk c p = y) : ∀ (d n k : Nat), k + d = p → d < n → f_X5_pairAt_L61 F (nI y) pcn n (nI k) = some (Sum.inl (nI p)) := by
  intro d
  induction d with
  | zero =>
    intro n k hk hn
    obtain ⟨m, rfl⟩ : ∃ m, n = m + 1 := ⟨n - 1, by omega⟩
    obtain rfl : k = p := by omega
    rw [f_X5_pairAt_L61, if_neg (show ¬ (16 : Int32) ≤ nI k from nI_ge hp (by decide)), rd_ok _ hp (by decide), ob_some, (hc k hp).1, s_ahead hF hc hp, ob_some, if_pos (by rw [hy])]
  | succ d ih =>
    intro n k hk hn
    obtain ⟨m, rfl⟩ : ∃ m, n = m + 1 := ⟨n - 1, by omega⟩
    have hk16 : k < 16 := by omega
    have h1 := rk_16 (c := c) hk16
    have h2 := rk_16 (c := c) hp
    have hne : rk c k ≠ y := fun e => by have := rk_inj hk16 hp (e.trans hy.symm); omega
    rw [f_X5_pairAt_L61, if_neg (show ¬ (16 : Int32) ≤ nI k from nI_ge hk16 (by decide)), rd_ok _ hk16 (by decide), ob_some, (hc k hk16).1, s_ahead hF hc hk16, ob_some, if_neg (nIlit (by omega) (by omega) hne), show (1 : Int32) = nI 1 from rfl, nI_add, ob_some]
    exact ih m (k + 1) (by omega) (by omega)
theorem m40 {F : Nat} (hF : 1100000 ≤ F) {s : Nat → Int32} {S : AS} (h : StM s S) (hr : RowOk S.1) {p : Nat} (hp : p < 16) : f_X6_pairAt_L40 F s (nI p) F (0 : Int32) (0 : Int32) = some (nI (rk (pc S.1) p)) := by
  have hl := hr.1
  have hcp := pc_le S.1 p
  have key := loop_sum (Lp := f_X6_pairAt_L40 F s (nI p)) (N := 16) 0 (f := fun o => if pc S.1 o > pc S.1 p ∨ (o < p ∧ pc S.1 o = pc S.1 p) then 1 else 0) ?_ ?_ 16 F 0 0 (Nat.le_refl _) rfl (by omega) (by omega)
  · rw [show (0 : Int32) = nI 0 from rfl, key, Nat.zero_add]
    rfl
  · intro n a k h1 h2
    rw [f_X6_pairAt_L40, if_pos (show (16 : Int32) ≤ nI k from nI_le h1 (by omega))]
  · intro n a k _ hk
    have hck := pc_le S.1 k
    rw [f_X6_pairAt_L40, if_neg (show ¬ (16 : Int32) ≤ nI k from nI_ge hk (by decide)), s_pairs hF h hr hk, ob_some, s_pairs hF h hr hp, ob_some]
    by_cases g : pc S.1 p < pc S.1 k
    · rw [if_pos (nI_lt g (by omega)), if_pos (Or.inl g), ob_some, show (1 : Int32) = nI 1 from rfl, nI_add, ob_some, nI_add, ob_some]
    · rw [if_neg (nI_nlt (by omega) (by omega))]
      by_cases hlt : k < p
      · rw [if_neg (nI_ge hlt (by omega)), ob_some, ob_some]
        by_cases e : pc S.1 k = pc S.1 p
        · rw [if_pos (by rw [e]), if_pos (Or.inr ⟨hlt, e⟩), ob_some, show (1 : Int32) = nI 1 from rfl, nI_add, ob_some, nI_add, ob_some]
        · rw [if_neg (nIlit (by omega) (by omega) e), if_neg (show ¬ (pc S.1 k > pc S.1 p ∨ (k < p ∧ pc S.1 k = pc S.1 p)) by omega), ob_some, show (0 : Int32) = nI 0 from rfl, nI_add, ob_some, show (1 : Int32) = nI 1 from rfl, nI_add, ob_some]
      · rw [if_pos (nI_le (by omega) (by omega)), if_neg (show ¬ (pc S.1 k > pc S.1 p ∨ (k < p ∧ pc S.1 k = pc S.1 p)) by omega), ob_some, show (0 : Int32) = nI 0 from rfl, nI_add, ob_some, show (1 : Int32) = nI 1 from rfl, nI_add, ob_some]
theorem m27 {F : Nat} (hF : 1100000 ≤ F) {s : Nat → Int32} {S : AS} (h : StM s S) (hr : RowOk S.1) {y p : Nat} (hp : p < 16) (hy : rk (pc S.1) p = y) : ∀ (d n k f0 : Nat), k + d = 16 → d < n → (k > p → f0 = p) → f_X6_pairAt_L27 F s (nI y) n (nI f0) (nI k) = some (nI p) := by
  have hy16 := rk_16 (c := pc S.1) hp
  intro d
  induction d with
  | zero =>
    intro n k f0 hk hn hf
    obtain ⟨m, rfl⟩ : ∃ m, n = m + 1 := ⟨n - 1, by omega⟩
    rw [f_X6_pairAt_L27, if_pos (show (16 : Int32) ≤ nI k from nI_le (a := 16) (by omega) (by omega)), hf (by omega)]
  | succ d ih =>
    intro n k f0 hk hn hf
    obtain ⟨m, rfl⟩ : ∃ m, n = m + 1 := ⟨n - 1, by omega⟩
    have hk16 : k < 16 := by omega
    have h1 := rk_16 (c := pc S.1) hk16
    rw [f_X6_pairAt_L27, if_neg (show ¬ (16 : Int32) ≤ nI k from nI_ge hk16 (by decide)), m40 hF h hr hk16, ob_some]
    by_cases e : rk (pc S.1) k = y
    · have hkp := rk_inj hk16 hp (e.trans hy.symm)
      rw [if_pos (by rw [e]), ob_some, show (1 : Int32) = nI 1 from rfl, nI_add, ob_some]
      exact ih m (k + 1) k (by omega) (by omega) (fun _ => hkp)
    · rw [if_neg (nIlit (by omega) (by omega) e), ob_some, show (1 : Int32) = nI 1 from rfl, nI_add, ob_some]
      refine ih m (k + 1) f0 (by omega) (by omega) (fun h => hf ?_)
      have : k ≠ p := fun z => e (by rw [z]; exact hy)
      omega
theorem st_pairAt {F : Nat} (hF : 1100000 ≤ F) {x_pastStates : Int32} {x_now_row : Int32} {x_now_table : Int32} {x_now_kept : Int32} {x_now_book : Nat → Int32} {x_text_length : Int32} {x_text_signs : Nat → Int32} {p0_row : Int32} {p0_table : Int32} {p0_kept : Int32} {p0_book : Nat → Int32} {p1_row : Int32} {p1_table : Int32} {p1_kept : Int32} {p1_book : Nat → Int32} {p2_row : Int32} {p2_table : Int32} {p2_kept : Int32} {p2_book : Nat → Int32} {p3_row : Int32} {p3_table : Int32} {p3_kept : Int32} {p3_book : Nat → Int32} {m_pasts : Int32} {m_runs0 : Int32} {m_typed : Int32} {m_s : Nat → Int32} {m_past : Nat → Int32} {m_text : Nat → Int32} (h : Rel x_pastStates x_now_row x_now_table x_now_kept x_now_book x_text_length x_text_signs p0_row p0_table p0_kept p0_book p1_row p1_table p1_kept p1_book p2_row p2_table p2_kept p2_book p3_row p3_table p3_kept p3_book m_pasts m_runs0 m_typed m_s m_past m_text) (x_pairCounts : Nat → Int32) (a1 : Int32) (a2 : Int32) : ∃ rx rm, f_X5_pairAt F x_now_row x_pairCounts a1 a2 = some rx ∧ f_X6_pairAt F m_s a1 a2 = some rm ∧ rx.1 = rm ∧ Rel x_pastStates x_now_row x_now_table x_now_kept x_now_book x_text_length x_text_signs p0_row p0_table p0_kept p0_book p1_row p1_table p1_kept p1_book p2_row p2_table p2_kept p2_book p3_row p3_table p3_kept p3_book m_pasts m_runs0 m_typed m_s m_past m_text := by
  obtain ⟨⟨r, t, bk⟩, hs, tx, hC, hM, hH, hHM, rfl, hT⟩ := h
  have hr : RowOk r := hC.2.1
  have hl := hr.1
  have e3 : x_now_row = encR r := hC.1
  have hR : ∀ v : Int32, v = v → Rel x_pastStates x_now_row x_now_table x_now_kept x_now_book x_text_length x_text_signs p0_row p0_table p0_kept p0_book p1_row p1_table p1_kept p1_book p2_row p2_table p2_kept p2_book p3_row p3_table p3_kept p3_book m_pasts 0 m_typed m_s m_past m_text := fun _ _ => ⟨(r, t, bk), hs, tx, hC, hM, hH, hHM, rfl, hT⟩
  rcases w_cases F a1 (m := 15) (by decide) with ⟨e1, e2⟩ | ⟨y, hy, rfl, e1, e2⟩
  · apply mkst
    · unfold f_X5_pairAt; rw [show (15 : Int32) = nI 15 from rfl, e1, ob_some, if_pos rfl]
    · unfold f_X6_pairAt; rw [show (15 : Int32) = nI 15 from rfl, e2, ob_some, if_pos rfl]
    · exact ⟨rfl, hR 0 rfl⟩
  rcases w1 F a2 with ⟨f1, f2⟩ | ⟨w, hw, rfl, f1, f2⟩
  · apply mkst
    · unfold f_X5_pairAt; rw [show (15 : Int32) = nI 15 from rfl, e1, ob_some, if_neg ne10, f1, ob_some, if_pos rfl]
    · unfold f_X6_pairAt; rw [show (15 : Int32) = nI 15 from rfl, e2, ob_some, if_neg ne10, f2, ob_some, if_pos rfl]
    · exact ⟨rfl, hR 0 rfl⟩
  obtain ⟨p, hp, hpy⟩ := rk_onto (pc r) (y := y) (by omega)
  have hl22 := l22 hF hr x_pairCounts
  generalize hB : (fun j => if 0 ≤ j ∧ j < 0 + 16 then nI (pc r (j - 0)) else x_pairCounts j) = B at hl22
  have hc : ∀ k, k < 16 → B k = nI (pc r k) ∧ pc r k < 100 := by
    intro k hk
    have := pc_le r k
    refine ⟨?_, by omega⟩
    rw [← hB]
    show (if 0 ≤ k ∧ k < 0 + 16 then nI (pc r (k - 0)) else x_pairCounts k) = _
    rw [if_pos (by omega), Nat.sub_zero]
  have h61 := l61 hF hc hp hpy p F 0 (by omega) (by omega)
  have h27 := m27 hF hM hr hp hpy 16 F 0 0 (by omega) (by omega) (fun h => by omega)
  by_cases hw0 : nI w = (0 : Int32)
  · apply mkst
    · unfold f_X5_pairAt
      rw [show (15 : Int32) = nI 15 from rfl, e1, ob_some, if_neg ne10, f1, ob_some, if_neg ne10, e3, hl22, ob_some, show (0 : Int32) = nI 0 from rfl, h61, ob_some, Sum.elim_inl, if_pos (show nI w = nI 0 from hw0), ob_some]
    · unfold f_X6_pairAt
      rw [show (15 : Int32) = nI 15 from rfl, e2, ob_some, if_neg ne10, f2, ob_some, if_neg ne10, show (0 : Int32) = nI 0 from rfl, h27, ob_some, if_pos (show nI w = nI 0 from hw0), ob_some]
    · exact ⟨rfl, hR 0 rfl⟩
  · apply mkst
    · unfold f_X5_pairAt
      rw [show (15 : Int32) = nI 15 from rfl, e1, ob_some, if_neg ne10, f1, ob_some, if_neg ne10, e3, hl22, ob_some, show (0 : Int32) = nI 0 from rfl, h61, ob_some, Sum.elim_inl, if_neg (show ¬ nI w = nI 0 from hw0), rd_ok _ hp (by decide), ob_some, ob_some]
    · unfold f_X6_pairAt
      rw [show (15 : Int32) = nI 15 from rfl, e2, ob_some, if_neg ne10, f2, ob_some, if_neg ne10, show (0 : Int32) = nI 0 from rfl, h27, ob_some, if_neg (show ¬ nI w = nI 0 from hw0), s_pairs hF hM hr hp, ob_some, ob_some]
    · exact ⟨(hc p hp).1, hR 0 rfl⟩
