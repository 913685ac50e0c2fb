def lastOf (q : List Nat) (k : Nat) : Nat := if k = 0 then 0 else gl q (k - 1)
def gn (w x y : Nat) (r0 : List Nat) (t : Nat → Nat) (place last letter : Nat) : Nat :=
  match w with
  | 0 => if 0 < place ∧ last = x ∧ letter = y then 1 else 0
  | 1 => if place = 0 ∨ last ≠ letter then 1 else 0
  | 2 => if gl r0 place = letter then 1 else 0
  | _ => if place % 2 = 1 ∧ t (4 * last + letter) = x then 1 else 0
def ms (w x y : Nat) (r0 : List Nat) (t : Nat → Nat) (q : List Nat) : Nat := sumF (fun k => gn w x y r0 t k (lastOf q k) (gl q k)) 0 q.length
theorem gn_le (w x y : Nat) (r0 : List Nat) (t : Nat → Nat) (p a b : Nat) : gn w x y r0 t p a b ≤ 1 := by
  unfold gn
  split <;> exact ind_le _
theorem ms_le (w x y : Nat) (r0 : List Nat) (t : Nat → Nat) (q : List Nat) : ms w x y r0 t q ≤ q.length := by
  have := sumF_le (f := fun k => gn w x y r0 t k (lastOf q k) (gl q k)) (c := 1) q.length 0 (fun i _ _ => gn_le w x y r0 t i _ _)
  unfold ms
  omega
theorem sumF_odd (f : Nat → Nat) (he : ∀ j, f (2 * j) = 0) : ∀ (d n j : Nat), 2 * d ≤ n → n ≤ 2 * d + 1 → sumF f (2 * j) n = sumF (fun i => f (2 * i + 1)) j d
  | 0, n, j, h1, h2 => by
    rcases (show n = 0 ∨ n = 1 by omega) with rfl | rfl
    · rfl
    · show f (2 * j) + 0 = 0
      rw [he]
  | d + 1, n, j, h1, h2 => by
    obtain ⟨m, rfl⟩ : ∃ m, n = m + 2 := ⟨n - 2, by omega⟩
    show f (2 * j) + (f (2 * j + 1) + sumF f (2 * j + 1 + 1) m) = f (2 * j + 1) + sumF (fun i => f (2 * i + 1)) (j + 1) d
    rw [he, Nat.zero_add, ← sumF_odd f he d m (j + 1) (by omega) (by omega)]
    rfl
theorem bI (c : Prop) [Decidable c] : (if nI (if c then 1 else 0) = (0 : Int32) then some (0 : Int32) else some 1) = some (nI (if c then 1 else 0)) := by
  by_cases h : c
  · rw [if_pos h]; rfl
  · rw [if_neg h]; rfl
theorem s_gain (F : Nat) {w x y : Nat} {r0 : List Nat} {tb : Int32} {t : Nat → Nat} (hr : RowOk r0) (ht : TabC tb t) (hw : w < 4) (hx : x < 4) (hy : y < 4) {p a b : Nat} (hp : p < 10) (ha : a < 4) (hb : b < 4) : f_X0_gain F (nI w) (nI x) (nI y) (encR r0) tb (nI p) (nI a) (nI b) = some (nI (gn w x y r0 t p a b)) := by
  unfold f_X0_gain
  rcases (show w = 0 ∨ w = 1 ∨ w = 2 ∨ w = 3 by omega) with rfl | rfl | rfl | rfl
  · rw [if_pos (show nI 0 = (0 : Int32) from rfl)]
    have e : (if nI p ≤ (0 : Int32) then some (0 : Int32) else if nI a = nI x then (if nI b = nI y then some 1 else some 0) else some 0) = some (nI (if 0 < p ∧ a = x ∧ b = y then 1 else 0)) := by
      by_cases h0 : p = 0
      · rw [if_pos (show nI p ≤ (0 : Int32) by rw [h0]; decide), if_neg (by omega)]; rfl
      · rw [if_neg (nI_nle (by omega) (by omega))]
        by_cases h1 : a = x
        · rw [if_pos (by rw [h1])]
          by_cases h2 : b = y
          · rw [if_pos (by rw [h2]), if_pos (by omega)]; rfl
          · rw [if_neg (nIlit (by omega) (by omega) h2), if_neg (by omega)]; rfl
        · rw [if_neg (nIlit (by omega) (by omega) h1), if_neg (by omega)]; rfl
    rw [e, ob_some, ob_some, bI, ob_some]
    rfl
  · rw [if_neg (show ¬ nI 1 = (0 : Int32) from ne10), if_pos (show nI 1 = (1 : Int32) from rfl)]
    have e : (if nI p = (0 : Int32) then some (1 : Int32) else if nI a = nI b then some 0 else some 1) = some (nI (if p = 0 ∨ a ≠ b then 1 else 0)) := by
      by_cases h0 : p = 0
      · rw [if_pos (show nI p = (0 : Int32) by rw [h0]; rfl), if_pos (Or.inl h0)]; rfl
      · rw [if_neg (show ¬ nI p = (0 : Int32) from nIlit (m := 0) (by omega) (by decide) h0)]
        by_cases h1 : a = b
        · rw [if_pos (by rw [h1]), if_neg (by omega)]; rfl
        · rw [if_neg (nIlit (by omega) (by omega) h1), if_pos (Or.inr h1)]; rfl
    rw [e, ob_some, ob_some, bI, ob_some]
    rfl
  · rw [if_neg (show ¬ nI 2 = (0 : Int32) by decide), if_neg (show ¬ nI 2 = (1 : Int32) by decide), if_pos (show nI 2 = (2 : Int32) from rfl), s_letterOf F hr hp, ob_some]
    have g := gl_lt hr.2 p
    have e : (if nI (gl r0 p) = nI b then some (1 : Int32) else some 0) = some (nI (if gl r0 p = b then 1 else 0)) := by
      by_cases h1 : gl r0 p = b
      · rw [if_pos (by rw [h1]), if_pos h1]; rfl
      · rw [if_neg (nIlit (by omega) (by omega) h1), if_neg h1]; rfl
    rw [e, ob_some, ob_some, bI, ob_some]
    rfl
  · rw [if_neg (show ¬ nI 3 = (0 : Int32) by decide), if_neg (show ¬ nI 3 = (1 : Int32) by decide), if_neg (show ¬ nI 3 = (2 : Int32) by decide), s_codeIn F ht ha hb, ob_some, show (2 : Int32) = nI 2 from rfl, nI_irem (by omega) (by decide) (by decide)]
    have g := (ht (4 * a + b) (by omega)).2
    have e : (if nI (p % 2) = (1 : Int32) then (if nI (t (4 * a + b)) = nI x then some (1 : Int32) else some 0) else some 0) = some (nI (if p % 2 = 1 ∧ t (4 * a + b) = x then 1 else 0)) := by
      by_cases h0 : p % 2 = 1
      · rw [if_pos (show nI (p % 2) = (1 : Int32) by rw [h0]; rfl)]
        by_cases h1 : t (4 * a + b) = x
        · rw [if_pos (by rw [h1]), if_pos ⟨h0, h1⟩]; rfl
        · rw [if_neg (nIlit (by omega) (by omega) h1), if_neg (fun z => h1 z.2)]; rfl
      · rw [if_neg (show ¬ nI (p % 2) = (1 : Int32) from nIlit (m := 1) (by omega) (by decide) h0), if_neg (fun z => h0 z.1)]; rfl
    rw [e, ob_some, ob_some, bI, ob_some]
    rfl
theorem s_ofRow {F : Nat} (hF : 1100000 ≤ F) {w x y : Nat} {r : List Nat} {tb : Int32} {t : Nat → Nat} (hr : RowOk r) (ht : TabC tb t) (hw : w < 4) (hx : x < 4) (hy : y < 4) : f_X0_ofRow F (nI w) (nI x) (nI y) (encR r) tb = some (nI (ms w x y r t r)) := by
  have hl := hr.1
  have key : ∀ (d n k acc : Nat), k + d = r.length → d < n → f_X0_ofRow_L6 F (nI w) (nI x) (nI y) (encR r) tb n (nI acc) (nI (lastOf r k)) (nI k) = some (nI (acc + sumF (fun k => gn w x y r t k (lastOf r k) (gl r k)) k d)) := by
    intro d
    induction d with
    | zero =>
      intro n k acc hk hn
      obtain ⟨m, rfl⟩ : ∃ m, n = m + 1 := ⟨n - 1, by omega⟩
      rw [f_X0_ofRow_L6, s_lengthOf F hr, ob_some, if_pos (nI_le (by omega) (by omega))]
      rfl
    | succ d ih =>
      intro n k acc hk hn
      obtain ⟨m, rfl⟩ : ∃ m, n = m + 1 := ⟨n - 1, by omega⟩
      have hla : lastOf r k < 4 := by
        unfold lastOf
        by_cases e : k = 0
        · rw [if_pos e]; decide
        · rw [if_neg e]; exact gl_lt hr.2 _
      rw [f_X0_ofRow_L6, s_lengthOf F hr, ob_some, if_neg (nI_ge (by omega) (by omega)), s_letterOf F hr (by omega), ob_some, s_gain F hr ht hw hx hy (by omega) hla (gl_lt hr.2 k), ob_some, nI_add, ob_some, show (1 : Int32) = nI 1 from rfl, nI_add, ob_some]
      have e2 : gl r k = lastOf r (k + 1) := by
        unfold lastOf
        rw [if_neg (by omega), Nat.add_sub_cancel]
      have h5 := ih m (k + 1) (acc + gn w x y r t k (lastOf r k) (gl r k)) (by omega) (by omega)
      rw [← e2] at h5
      rw [h5]
      show _ = some (nI (acc + (gn w x y r t k (lastOf r k) (gl r k) + sumF _ (k + 1) d)))
      rw [Nat.add_assoc]
  unfold f_X0_ofRow
  have h5 := key r.length F 0 0 (by omega) (by omega)
  rw [show (0 : Int32) = nI 0 from rfl]
  have h6 : f_X0_ofRow_L6 F (nI w) (nI x) (nI y) (encR r) tb F (nI 0) (nI 0) (nI 0) = some (nI (ms w x y r t r)) := by
    rw [Nat.zero_add] at h5
    exact h5
  rw [h6, ob_some]

theorem s_codeAt_m_s {F : Nat} {s : Nat → Int32} {S : AS} (h : StM s S) {fr n : Nat} {g : Nat → Nat} (hb : fr + n ≤ 116) (hv : ∀ i, i < n → s (fr + i) = nI (g i) ∧ g i < 4) {j : Nat} (hj : 2 * j + 1 < n) : f_X6_codeAt_m_s F s (nI fr) (nI j) = some (nI (S.2.1 (4 * g (2 * j) + g (2 * j + 1)))) := by
  obtain ⟨v1, g1⟩ := hv (2 * j) (by omega)
  obtain ⟨v2, g2⟩ := hv (2 * j + 1) hj
  unfold f_X6_codeAt_m_s
  rw [show (2 : Int32) = nI 2 from rfl, nI_mul, nI_add, rd_ok _ (by omega) (by decide), ob_some, show (1 : Int32) = nI 1 from rfl, nI_add, rd_ok _ (by omega) (by decide), ob_some, Nat.add_assoc fr, v1, v2, tab_ix, rd_ok _ (by omega) (by decide), ob_some, h.2.2.1 _ (by omega)]
theorem s_runs_m_s {F : Nat} (hF : 1100000 ≤ F) {s : Nat → Int32} {S : AS} (h : StM s S) {fr : Nat} {q : List Nat} (hq : q.length = S.1.length) (h10 : q.length ≤ 10) (hb : fr + q.length ≤ 116) (hv : ∀ i, i < q.length → s (fr + i) = nI (gl q i) ∧ gl q i < 4) (x y : Nat) (r0 : List Nat) (t : Nat → Nat) : f_X6_runsOf_m_s F s (nI fr) = some (nI (ms 1 x y r0 t q)) := by
  have key := loop_sum (Lp := f_X6_runsOf_m_s_L18 F s (nI fr)) (N := q.length) 1 (f := fun k => if k = 0 ∨ lastOf q k ≠ gl q k then 1 else 0) ?_ ?_ (q.length - 1) F 1 (if q.length = 0 then 0 else 1) (Nat.le_refl _) rfl (by omega) (by omega)
  · unfold f_X6_runsOf_m_s
    rw [rd0 _ (by decide) (by decide), ob_some, h.1, ← hq]
    have e : (if nI q.length = (0 : Int32) then some (0 : Int32) else some 1) = some (nI (if q.length = 0 then 0 else 1)) := by
      by_cases e : q.length = 0
      · rw [if_pos (by rw [e]; rfl), if_pos e]; rfl
      · rw [if_neg (show ¬ nI q.length = (0 : Int32) from nIlit (m := 0) (by omega) (by decide) e), if_neg e]; rfl
    rw [e, ob_some, show (1 : Int32) = nI 1 from rfl, key, ob_some]
    congr 2
    show _ = sumF (fun k => if k = 0 ∨ lastOf q k ≠ gl q k then 1 else 0) 0 q.length
    cases hl : q.length with
    | zero => rfl
    | succ n => rfl
  · intro n a k h1 h2
    rw [f_X6_runsOf_m_s_L18, rd0 _ (by decide) (by decide), ob_some, h.1, ← hq, if_pos (nI_le h1 (by omega))]
  · intro n a k hk1 hk
    obtain ⟨v1, g1⟩ := hv k hk
    obtain ⟨v2, g2⟩ := hv (k - 1) (by omega)
    have hlast : lastOf q k = gl q (k - 1) := if_neg (by omega)
    rw [f_X6_runsOf_m_s_L18, rd0 _ (by decide) (by decide), ob_some, h.1, ← hq, if_neg (nI_ge hk (by omega)), nI_add, rd_ok _ (by omega) (by decide), ob_some, show (1 : Int32) = nI 1 from rfl, nI_sub (by omega), rd_ok _ (by omega) (by decide), ob_some, show fr + k - 1 = fr + (k - 1) by omega, v1, v2, hlast]
    by_cases e : gl q k = gl q (k - 1)
    · rw [if_pos (by rw [e]), if_neg (show ¬ (k = 0 ∨ gl q (k - 1) ≠ gl q k) from fun z => by rcases z with z | z; · omega
                                                                                              · exact z e.symm), ob_some, show (0 : Int32) = nI 0 from rfl, nI_add, ob_some, nI_add, ob_some]
    · rw [if_neg (nIlit (by omega) (by omega) e), if_pos (show k = 0 ∨ gl q (k - 1) ≠ gl q k from Or.inr (fun z => e z.symm)), ob_some, nI_add, ob_some, nI_add, ob_some]
theorem s_told_m_s {F : Nat} (hF : 1100000 ≤ F) {s : Nat → Int32} {S : AS} (h : StM s S) (hr : RowOk S.1) (ht : ∀ k, k < 16 → S.2.1 k < 4) {fr : Nat} {q : List Nat} (hq : q.length = S.1.length) (hb : fr + q.length ≤ 116) (hv : ∀ i, i < q.length → s (fr + i) = nI (gl q i) ∧ gl q i < 4) {w x y : Nat} (hw : w < 4) (hx : x < 4) (hy : y < 4) : f_X6_told_m_s F s (nI fr) (nI w) (nI x) (nI y) = some (nI (ms w x y S.1 S.2.1 q)) := by
  have hl := hr.1
  have h10 : q.length ≤ 10 := by omega
  unfold f_X6_told_m_s
  rcases (show w = 0 ∨ w = 1 ∨ w = 2 ∨ w = 3 by omega) with rfl | rfl | rfl | rfl
  · rw [if_pos (show nI 0 = (0 : Int32) from rfl), rd0 _ (by decide) (by decide), ob_some, h.1, ← hq, show (4 : Int32) = nI 4 from rfl, nI_mul, nI_add, s_often hF (g := gl q) hb (by decide) h10 hv (by omega), ob_some]
    congr 2
    unfold ms
    cases hl : q.length with
    | zero => rfl
    | succ n =>
      show sumF _ 1 n = (if 0 < 0 ∧ lastOf q 0 = x ∧ gl q 0 = y then 1 else 0) + sumF _ 1 n
      rw [if_neg (by omega), Nat.zero_add]
      refine sumF_cong _ _ (fun k h1 h2 => ?_)
      obtain ⟨-, g1⟩ := hv k (by omega)
      obtain ⟨-, g2⟩ := hv (k - 1) (by omega)
      show _ = (if 0 < k ∧ lastOf q k = x ∧ gl q k = y then 1 else 0)
      rw [show lastOf q k = gl q (k - 1) from if_neg (by omega)]
      by_cases e : 4 * gl q (k - 1) + gl q k = 4 * x + y
      · rw [if_pos e, if_pos (by omega)]
      · rw [if_neg e, if_neg (by omega)]
  · rw [if_neg (show ¬ nI 1 = (0 : Int32) from ne10), if_pos (show nI 1 = (1 : Int32) from rfl), s_runs_m_s hF h hq h10 hb hv x y S.1 S.2.1, ob_some]
  · rw [if_neg (show ¬ nI 2 = (0 : Int32) by decide), if_neg (show ¬ nI 2 = (1 : Int32) by decide)]
    have key := loop_sum (Lp := f_X6_told_m_s_L41 F s (nI fr) (nI 2) (nI x)) (N := q.length) 0 (f := fun k => if gl S.1 k = gl q k then 1 else 0) ?_ ?_ q.length F 0 0 (Nat.le_refl _) rfl (by omega) (by omega)
    · rw [show (0 : Int32) = nI 0 from rfl, key, ob_some, Nat.zero_add]
      rfl
    · intro n a k h1 h2
      rw [f_X6_told_m_s_L41, if_pos (show nI 2 = (2 : Int32) from rfl), rd0 _ (by decide) (by decide), ob_some, ob_some, h.1, ← hq, if_pos (nI_le h1 (by omega))]
    · intro n a k _ hk
      obtain ⟨v1, g1⟩ := hv k hk
      have g2 := gl_lt hr.2 k
      rw [f_X6_told_m_s_L41, if_pos (show nI 2 = (2 : Int32) from rfl), rd0 _ (by decide) (by decide), ob_some, ob_some, h.1, ← hq, if_neg (nI_ge hk (by omega)), if_pos (show nI 2 = (2 : Int32) from rfl), nI_add, rd_ok _ (by omega) (by decide), ob_some, show (1 : Int32) = nI 1 from rfl, nI_add, rd_ok _ (by omega) (by decide), ob_some, v1, h.2.1 k (by omega)]
      by_cases e : gl S.1 k = gl q k
      · rw [if_pos (by rw [e]), if_pos e, ob_some, nI_add, ob_some, nI_add, ob_some]
      · rw [if_neg (nIlit (by omega) (by omega) (fun z => e z.symm)), if_neg e, ob_some, show (0 : Int32) = nI 0 from rfl, nI_add, ob_some, nI_add, ob_some]
  · rw [if_neg (show ¬ nI 3 = (0 : Int32) by decide), if_neg (show ¬ nI 3 = (1 : Int32) by decide)]
    have key := loop_sum (Lp := f_X6_told_m_s_L41 F s (nI fr) (nI 3) (nI x)) (N := q.length / 2) 0 (f := fun j => if S.2.1 (4 * gl q (2 * j) + gl q (2 * j + 1)) = x then 1 else 0) ?_ ?_ (q.length / 2) F 0 0 (Nat.le_refl _) rfl (by omega) (by omega)
    · rw [show (0 : Int32) = nI 0 from rfl, key, ob_some, Nat.zero_add]
      congr 2
      symm
      have hodd := sumF_odd (fun k => gn 3 x y S.1 S.2.1 k (lastOf q k) (gl q k)) (fun j => if_neg (fun z => by have := z.1; omega)) (q.length / 2) q.length 0 (by omega) (by omega)
      unfold ms
      refine hodd.trans (sumF_cong _ _ (fun j h1 h2 => ?_))
      show (if (2 * j + 1) % 2 = 1 ∧ S.2.1 (4 * lastOf q (2 * j + 1) + gl q (2 * j + 1)) = x then 1 else 0) = _
      rw [show lastOf q (2 * j + 1) = gl q (2 * j) from if_neg (by omega)]
      by_cases e : S.2.1 (4 * gl q (2 * j) + gl q (2 * j + 1)) = x
      · rw [if_pos ⟨by omega, e⟩, if_pos e]
      · rw [if_neg (fun z => e z.2), if_neg e]
    · intro n a k h1 h2
      rw [f_X6_told_m_s_L41, if_neg (show ¬ nI 3 = (2 : Int32) by decide), rd0 _ (by decide) (by decide), ob_some, h.1, ← hq, show (2 : Int32) = nI 2 from rfl, nI_div (by omega) (by decide) (by decide), ob_some, if_pos (nI_le h1 (by omega))]
    · intro n a k _ hk
      obtain ⟨-, g1⟩ := hv (2 * k) (by omega)
      obtain ⟨-, g2⟩ := hv (2 * k + 1) (by omega)
      have g3 := ht (4 * gl q (2 * k) + gl q (2 * k + 1)) (by omega)
      rw [f_X6_told_m_s_L41, if_neg (show ¬ nI 3 = (2 : Int32) by decide), if_neg (show ¬ nI 3 = (2 : Int32) by decide), rd0 _ (by decide) (by decide), ob_some, h.1, ← hq, show (2 : Int32) = nI 2 from rfl, nI_div (by omega) (by decide) (by decide), ob_some, if_neg (nI_ge hk (by omega)), s_codeAt_m_s h hb hv (by omega), ob_some]
      by_cases e : S.2.1 (4 * gl q (2 * k) + gl q (2 * k + 1)) = x
      · rw [if_pos (by rw [e]), if_pos e, ob_some, show (1 : Int32) = nI 1 from rfl, nI_add, ob_some, nI_add, ob_some]
      · rw [if_neg (nIlit (by omega) (by omega) e), if_neg e, ob_some, show (0 : Int32) = nI 0 from rfl, show (1 : Int32) = nI 1 from rfl, nI_add, ob_some, nI_add, ob_some]

theorem s_codeAt_m_now {F : Nat} {s b : Nat → Int32} {S : AS} (h : StM s S) {fr n : Nat} {g : Nat → Nat} (hb : fr + n ≤ 10) (hv : ∀ i, i < n → b (fr + i) = nI (g i) ∧ g i < 4) {j : Nat} (hj : 2 * j + 1 < n) : f_X6_codeAt_m_now F s b (nI fr) (nI j) = some (nI (S.2.1 (4 * g (2 * j) + g (2 * j + 1)))) := by
  obtain ⟨v1, g1⟩ := hv (2 * j) (by omega)
  obtain ⟨v2, g2⟩ := hv (2 * j + 1) hj
  unfold f_X6_codeAt_m_now
  rw [show (2 : Int32) = nI 2 from rfl, nI_mul, nI_add, rd_ok _ (by omega) (by decide), ob_some, show (1 : Int32) = nI 1 from rfl, nI_add, rd_ok _ (by omega) (by decide), ob_some, Nat.add_assoc fr, v1, v2, tab_ix, rd_ok _ (by omega) (by decide), ob_some, h.2.2.1 _ (by omega)]
theorem s_runs_m_now {F : Nat} (hF : 1100000 ≤ F) {s b : Nat → Int32} {S : AS} (h : StM s S) {fr : Nat} {q : List Nat} (hq : q.length = S.1.length) (h10 : q.length ≤ 10) (hb : fr + q.length ≤ 10) (hv : ∀ i, i < q.length → b (fr + i) = nI (gl q i) ∧ gl q i < 4) (x y : Nat) (r0 : List Nat) (t : Nat → Nat) : f_X6_runsOf_m_now F s b (nI fr) = some (nI (ms 1 x y r0 t q)) := by
  have key := loop_sum (Lp := f_X6_runsOf_m_now_L18 F s b (nI fr)) (N := q.length) 1 (f := fun k => if k = 0 ∨ lastOf q k ≠ gl q k then 1 else 0) ?_ ?_ (q.length - 1) F 1 (if q.length = 0 then 0 else 1) (Nat.le_refl _) rfl (by omega) (by omega)
  · unfold f_X6_runsOf_m_now
    rw [rd0 _ (by decide) (by decide), ob_some, h.1, ← hq]
    have e : (if nI q.length = (0 : Int32) then some (0 : Int32) else some 1) = some (nI (if q.length = 0 then 0 else 1)) := by
      by_cases e : q.length = 0
      · rw [if_pos (by rw [e]; rfl), if_pos e]; rfl
      · rw [if_neg (show ¬ nI q.length = (0 : Int32) from nIlit (m := 0) (by omega) (by decide) e), if_neg e]; rfl
    rw [e, ob_some, show (1 : Int32) = nI 1 from rfl, key, ob_some]
    congr 2
    show _ = sumF (fun k => if k = 0 ∨ lastOf q k ≠ gl q k then 1 else 0) 0 q.length
    cases hl : q.length with
    | zero => rfl
    | succ n => rfl
  · intro n a k h1 h2
    rw [f_X6_runsOf_m_now_L18, rd0 _ (by decide) (by decide), ob_some, h.1, ← hq, if_pos (nI_le h1 (by omega))]
  · intro n a k hk1 hk
    obtain ⟨v1, g1⟩ := hv k hk
    obtain ⟨v2, g2⟩ := hv (k - 1) (by omega)
    have hlast : lastOf q k = gl q (k - 1) := if_neg (by omega)
    rw [f_X6_runsOf_m_now_L18, rd0 _ (by decide) (by decide), ob_some, h.1, ← hq, if_neg (nI_ge hk (by omega)), nI_add, rd_ok _ (by omega) (by decide), ob_some, show (1 : Int32) = nI 1 from rfl, nI_sub (by omega), rd_ok _ (by omega) (by decide), ob_some, show fr + k - 1 = fr + (k - 1) by omega, v1, v2, hlast]
    by_cases e : gl q k = gl q (k - 1)
    · rw [if_pos (by rw [e]), if_neg (show ¬ (k = 0 ∨ gl q (k - 1) ≠ gl q k) from fun z => by rcases z with z | z; · omega
                                                                                              · exact z e.symm), ob_some, show (0 : Int32) = nI 0 from rfl, nI_add, ob_some, nI_add, ob_some]
    · rw [if_neg (nIlit (by omega) (by omega) e), if_pos (show k = 0 ∨ gl q (k - 1) ≠ gl q k from Or.inr (fun z => e z.symm)), ob_some, nI_add, ob_some, nI_add, ob_some]
theorem s_told_m_now {F : Nat} (hF : 1100000 ≤ F) {s b : Nat → Int32} {S : AS} (h : StM s S) (hr : RowOk S.1) (ht : ∀ k, k < 16 → S.2.1 k < 4) {fr : Nat} {q : List Nat} (hq : q.length = S.1.length) (hb : fr + q.length ≤ 10) (hv : ∀ i, i < q.length → b (fr + i) = nI (gl q i) ∧ gl q i < 4) {w x y : Nat} (hw : w < 4) (hx : x < 4) (hy : y < 4) : f_X6_told_m_now F s b (nI fr) (nI w) (nI x) (nI y) = some (nI (ms w x y S.1 S.2.1 q)) := by
  have hl := hr.1
  have h10 : q.length ≤ 10 := by omega
  unfold f_X6_told_m_now
  rcases (show w = 0 ∨ w = 1 ∨ w = 2 ∨ w = 3 by omega) with rfl | rfl | rfl | rfl
  · rw [if_pos (show nI 0 = (0 : Int32) from rfl), rd0 _ (by decide) (by decide), ob_some, h.1, ← hq, show (4 : Int32) = nI 4 from rfl, nI_mul, nI_add, s_often hF (g := gl q) hb (by decide) h10 hv (by omega), ob_some]
    congr 2
    unfold ms
    cases hl : q.length with
    | zero => rfl
    | succ n =>
      show sumF _ 1 n = (if 0 < 0 ∧ lastOf q 0 = x ∧ gl q 0 = y then 1 else 0) + sumF _ 1 n
      rw [if_neg (by omega), Nat.zero_add]
      refine sumF_cong _ _ (fun k h1 h2 => ?_)
      obtain ⟨-, g1⟩ := hv k (by omega)
      obtain ⟨-, g2⟩ := hv (k - 1) (by omega)
      show _ = (if 0 < k ∧ lastOf q k = x ∧ gl q k = y then 1 else 0)
      rw [show lastOf q k = gl q (k - 1) from if_neg (by omega)]
      by_cases e : 4 * gl q (k - 1) + gl q k = 4 * x + y
      · rw [if_pos e, if_pos (by omega)]
      · rw [if_neg e, if_neg (by omega)]
  · rw [if_neg (show ¬ nI 1 = (0 : Int32) from ne10), if_pos (show nI 1 = (1 : Int32) from rfl), s_runs_m_now hF h hq h10 hb hv x y S.1 S.2.1, ob_some]
  · rw [if_neg (show ¬ nI 2 = (0 : Int32) by decide), if_neg (show ¬ nI 2 = (1 : Int32) by decide)]
    have key := loop_sum (Lp := f_X6_told_m_now_L41 F s b (nI fr) (nI 2) (nI x)) (N := q.length) 0 (f := fun k => if gl S.1 k = gl q k then 1 else 0) ?_ ?_ q.length F 0 0 (Nat.le_refl _) rfl (by omega) (by omega)
    · rw [show (0 : Int32) = nI 0 from rfl, key, ob_some, Nat.zero_add]
      rfl
    · intro n a k h1 h2
      rw [f_X6_told_m_now_L41, if_pos (show nI 2 = (2 : Int32) from rfl), rd0 _ (by decide) (by decide), ob_some, ob_some, h.1, ← hq, if_pos (nI_le h1 (by omega))]
    · intro n a k _ hk
      obtain ⟨v1, g1⟩ := hv k hk
      have g2 := gl_lt hr.2 k
      rw [f_X6_told_m_now_L41, if_pos (show nI 2 = (2 : Int32) from rfl), rd0 _ (by decide) (by decide), ob_some, ob_some, h.1, ← hq, if_neg (nI_ge hk (by omega)), if_pos (show nI 2 = (2 : Int32) from rfl), nI_add, rd_ok _ (by omega) (by decide), ob_some, show (1 : Int32) = nI 1 from rfl, nI_add, rd_ok _ (by omega) (by decide), ob_some, v1, h.2.1 k (by omega)]
      by_cases e : gl S.1 k = gl q k
      · rw [if_pos (by rw [e]), if_pos e, ob_some, nI_add, ob_some, nI_add, ob_some]
      · rw [if_neg (nIlit (by omega) (by omega) (fun z => e z.symm)), if_neg e, ob_some, show (0 : Int32) = nI 0 from rfl, nI_add, ob_some, nI_add, ob_some]
  · rw [if_neg (show ¬ nI 3 = (0 : Int32) by decide), if_neg (show ¬ nI 3 = (1 : Int32) by decide)]
    have key := loop_sum (Lp := f_X6_told_m_now_L41 F s b (nI fr) (nI 3) (nI x)) (N := q.length / 2) 0 (f := fun j => if S.2.1 (4 * gl q (2 * j) + gl q (2 * j + 1)) = x then 1 else 0) ?_ ?_ (q.length / 2) F 0 0 (Nat.le_refl _) rfl (by omega) (by omega)
    · rw [show (0 : Int32) = nI 0 from rfl, key, ob_some, Nat.zero_add]
      congr 2
      symm
      have hodd := sumF_odd (fun k => gn 3 x y S.1 S.2.1 k (lastOf q k) (gl q k)) (fun j => if_neg (fun z => by have := z.1; omega)) (q.length / 2) q.length 0 (by omega) (by omega)
      unfold ms
      refine hodd.trans (sumF_cong _ _ (fun j h1 h2 => ?_))
      show (if (2 * j + 1) % 2 = 1 ∧ S.2.1 (4 * lastOf q (2 * j + 1) + gl q (2 * j + 1)) = x then 1 else 0) = _
      rw [show lastOf q (2 * j + 1) = gl q (2 * j) from if_neg (by omega)]
      by_cases e : S.2.1 (4 * gl q (2 * j) + gl q (2 * j + 1)) = x
      · rw [if_pos ⟨by omega, e⟩, if_pos e]
      · rw [if_neg (fun z => e z.2), if_neg e]
    · intro n a k h1 h2
      rw [f_X6_told_m_now_L41, if_neg (show ¬ nI 3 = (2 : Int32) by decide), rd0 _ (by decide) (by decide), ob_some, h.1, ← hq, show (2 : Int32) = nI 2 from rfl, nI_div (by omega) (by decide) (by decide), ob_some, if_pos (nI_le h1 (by omega))]
    · intro n a k _ hk
      obtain ⟨-, g1⟩ := hv (2 * k) (by omega)
      obtain ⟨-, g2⟩ := hv (2 * k + 1) (by omega)
      have g3 := ht (4 * gl q (2 * k) + gl q (2 * k + 1)) (by omega)
      rw [f_X6_told_m_now_L41, if_neg (show ¬ nI 3 = (2 : Int32) by decide), if_neg (show ¬ nI 3 = (2 : Int32) by decide), rd0 _ (by decide) (by decide), ob_some, h.1, ← hq, show (2 : Int32) = nI 2 from rfl, nI_div (by omega) (by decide) (by decide), ob_some, if_neg (nI_ge hk (by omega)), s_codeAt_m_now h hb hv (by omega), ob_some]
      by_cases e : S.2.1 (4 * gl q (2 * k) + gl q (2 * k + 1)) = x
      · rw [if_pos (by rw [e]), if_pos e, ob_some, show (1 : Int32) = nI 1 from rfl, nI_add, ob_some, nI_add, ob_some]
      · rw [if_neg (nIlit (by omega) (by omega) e), if_neg e, ob_some, show (0 : Int32) = nI 0 from rfl, show (1 : Int32) = nI 1 from rfl, nI_add, ob_some, nI_add, ob_some]

theorem told_own {F : Nat} (hF : 1100000 ≤ F) {s : Nat → Int32} {S : AS} (h : StM s S) (hr : RowOk S.1) (ht : ∀ k, k < 16 → S.2.1 k < 4) {w x y : Nat} (hw : w < 4) (hx : x < 4) (hy : y < 4) : f_X6_told_m_s F s 1 (nI w) (nI x) (nI y) = some (nI (ms w x y S.1 S.2.1 S.1)) := by
  have hl := hr.1
  exact s_told_m_s hF h hr ht (fr := 1) (q := S.1) rfl (by omega) (fun i hi => ⟨h.2.1 i hi, gl_lt hr.2 i⟩) hw hx hy
theorem st_measure {F : Nat} (hF : 1100000 ≤ F) {x_pastStates : Int32} {x_now_row : Int32} {x_now_table : Int32} {x_now_kept : Int32} {x_now_book : Nat → Int32} {x_text_length : Int32} {x_text_signs : Nat → Int32} {p0_row : Int32} {p0_table : Int32} {p0_kept : Int32} {p0_book : Nat → Int32} {p1_row : Int32} {p1_table : Int32} {p1_kept : Int32} {p1_book : Nat → Int32} {p2_row : Int32} {p2_table : Int32} {p2_kept : Int32} {p2_book : Nat → Int32} {p3_row : Int32} {p3_table : Int32} {p3_kept : Int32} {p3_book : Nat → Int32} {m_pasts : Int32} {m_runs0 : Int32} {m_typed : Int32} {m_s : Nat → Int32} {m_past : Nat → Int32} {m_text : Nat → Int32} (h : Rel x_pastStates x_now_row x_now_table x_now_kept x_now_book x_text_length x_text_signs p0_row p0_table p0_kept p0_book p1_row p1_table p1_kept p1_book p2_row p2_table p2_kept p2_book p3_row p3_table p3_kept p3_book m_pasts m_runs0 m_typed m_s m_past m_text) (x_measured_which : Int32) (x_measured_x : Int32) (x_measured_y : Int32) (x_measured_row : Int32) (x_measured_table : Int32) (a1 : Int32) (a2 : Int32) (a3 : Int32) : ∃ rx rm, f_X5_measure F x_now_row x_now_table x_measured_which x_measured_x x_measured_y x_measured_row x_measured_table a1 a2 a3 = some rx ∧ f_X6_measure F m_s a1 a2 a3 = some rm ∧ rx.1 = rm ∧ Rel x_pastStates x_now_row x_now_table x_now_kept x_now_book x_text_length x_text_signs p0_row p0_table p0_kept p0_book p1_row p1_table p1_kept p1_book p2_row p2_table p2_kept p2_book p3_row p3_table p3_kept p3_book m_pasts m_runs0 m_typed m_s m_past m_text := by
  obtain ⟨⟨r, t, bk⟩, hs, tx, hC, hM, hH, hHM, rfl, hT⟩ := h
  have hr : RowOk r := hC.2.1
  have e3 : x_now_row = encR r := hC.1
  have htab : TabC x_now_table t := hC.2.2.1
  have hR : Rel x_pastStates x_now_row x_now_table x_now_kept x_now_book x_text_length x_text_signs p0_row p0_table p0_kept p0_book p1_row p1_table p1_kept p1_book p2_row p2_table p2_kept p2_book p3_row p3_table p3_kept p3_book m_pasts 0 m_typed m_s m_past m_text := ⟨(r, t, bk), hs, tx, hC, hM, hH, hHM, rfl, hT⟩
  rcases c4 F a1 with ⟨e1, e2⟩ | ⟨w, hw, rfl, e1, e2⟩
  · apply mkst
    · unfold f_X5_measure; rw [e1, ob_some, if_pos rfl]
    · unfold f_X6_measure; rw [e2, ob_some, if_pos rfl, ob_some]
    · exact ⟨rfl, hR⟩
  rcases c4 F a2 with ⟨f1, f2⟩ | ⟨x, hx, rfl, f1, f2⟩
  · apply mkst
    · unfold f_X5_measure; rw [e1, ob_some, if_neg ne10, f1, ob_some, if_pos rfl]
    · unfold f_X6_measure; rw [e2, ob_some, if_neg ne10, f2, ob_some, if_pos rfl, ob_some]
    · exact ⟨rfl, hR⟩
  rcases c4 F a3 with ⟨g1, g2⟩ | ⟨y, hy, rfl, g1, g2⟩
  · apply mkst
    · unfold f_X5_measure; rw [e1, ob_some, if_neg ne10, f1, ob_some, if_neg ne10, g1, ob_some, if_pos rfl]
    · unfold f_X6_measure; rw [e2, ob_some, if_neg ne10, f2, ob_some, if_neg ne10, g2, ob_some, if_pos rfl, ob_some]
    · exact ⟨rfl, hR⟩
  apply mkst
  · unfold f_X5_measure f_X0_set
    rw [e1, ob_some, if_neg ne10, f1, ob_some, if_neg ne10, g1, ob_some, if_neg ne10, ob_some, e3, s_ofRow hF hr htab hw hx hy, ob_some]
  · unfold f_X6_measure
    rw [e2, ob_some, if_neg ne10, f2, ob_some, if_neg ne10, g2, ob_some, if_neg ne10, told_own hF hM hr (fun k hk => (htab k hk).2) hw hx hy, ob_some, ob_some]
  · exact ⟨rfl, hR⟩
theorem nI_pos0 {n : Nat} (h : n < 2 ^ 31) : nI n ≤ (0 : Int32) ↔ n = 0 := by
  constructor
  · intro e
    rcases Nat.eq_zero_or_pos n with h0 | h0
    · exact h0
    · exact absurd e (nI_nle h0 h)
  · intro e
    rw [e]
    decide
theorem s_unL {F : Nat} (hF : 1100000 ≤ F) {r : List Nat} (hr : RowOk r) : f_X5_unlikeLetters F (encR r) = some (nI (sumF (fun x => if letC r x = 0 then 0 else 1) 0 4)) := by
  have hl := hr.1
  have key := loop_sum (Lp := f_X5_unlikeLetters_L4 F (encR r)) (N := 4) 0 (f := fun x => if letC r x = 0 then 0 else 1) ?_ ?_ 4 F 0 0 (Nat.le_refl _) rfl (by omega) (by omega)
  · unfold f_X5_unlikeLetters
    rw [show (0 : Int32) = nI 0 from rfl, key, ob_some, Nat.zero_add]
  · intro n a k h1 h2
    rw [f_X5_unlikeLetters_L4, if_pos (show (4 : Int32) ≤ nI k from nI_le h1 (by omega))]
  · intro n a k _ hk
    have := letC_le r k
    rw [f_X5_unlikeLetters_L4, if_neg (show ¬ (4 : Int32) ≤ nI k from nI_ge hk (by decide)), s_lettersIn hF hr hk, ob_some]
    by_cases e : letC r k = 0
    · rw [if_pos ((nI_pos0 (by omega)).mpr e), if_pos e, ob_some, show (1 : Int32) = nI 1 from rfl, nI_add, ob_some]; rfl
    · rw [if_neg (fun z => e ((nI_pos0 (by omega)).mp z)), if_neg e, show (1 : Int32) = nI 1 from rfl]
      simp only [ob_some, nI_add]
theorem s_unP {F : Nat} (hF : 1100000 ≤ F) {r : List Nat} (hr : RowOk r) : f_X5_unlikePairs F (encR r) = some (nI (sumF (fun x => if pc r x = 0 then 0 else 1) 0 16)) := by
  have hl := hr.1
  have key := loop_sum (Lp := f_X5_unlikePairs_L4 F (encR r)) (N := 16) 0 (f := fun x => if pc r x = 0 then 0 else 1) ?_ ?_ 16 F 0 0 (Nat.le_refl _) rfl (by omega) (by omega)
  · unfold f_X5_unlikePairs
    rw [show (0 : Int32) = nI 0 from rfl, key, ob_some, Nat.zero_add]
  · intro n a k h1 h2
    rw [f_X5_unlikePairs_L4, if_pos (show (16 : Int32) ≤ nI k from nI_le h1 (by omega))]
  · intro n a k _ hk
    have := pc_le r k
    rw [f_X5_unlikePairs_L4, if_neg (show ¬ (16 : Int32) ≤ nI k from nI_ge hk (by decide)), show (4 : Int32) = nI 4 from rfl, nI_div (by omega) (by decide) (by decide), nI_irem (by omega) (by decide) (by decide), s_pairsIn hF hr (by omega) (Nat.mod_lt _ (by decide)), ob_some, show 4 * (k / 4) + k % 4 = k by omega]
    by_cases e : pc r k = 0
    · rw [if_pos ((nI_pos0 (by omega)).mpr e), if_pos e, ob_some, show (1 : Int32) = nI 1 from rfl, nI_add, ob_some]; rfl
    · rw [if_neg (fun z => e ((nI_pos0 (by omega)).mp z)), if_neg e, show (1 : Int32) = nI 1 from rfl]
      simp only [ob_some, nI_add]
theorem s_un0 {F : Nat} (hF : 1100000 ≤ F) {s : Nat → Int32} {S : AS} (h : StM s S) (hr : RowOk S.1) : f_X6_unlike F s 0 = some (nI (sumF (fun x => if letC S.1 x = 0 then 0 else 1) 0 4)) := by
  have hl := hr.1
  have key := loop_sum (Lp := f_X6_unlike_L4 F s (0 : Int32)) (N := 4) 0 (f := fun x => if letC S.1 x = 0 then 0 else 1) ?_ ?_ 4 F 0 0 (Nat.le_refl _) rfl (by omega) (by omega)
  · unfold f_X6_unlike
    have key' : f_X6_unlike_L4 F s (0 : Int32) F (0 : Int32) (0 : Int32) = _ := key
    rw [key', ob_some, Nat.zero_add]
  · intro n a k h1 h2
    rw [f_X6_unlike_L4, if_pos rfl, ob_some, if_pos (show (4 : Int32) ≤ nI k from nI_le h1 (by omega))]
  · intro n a k _ hk
    have := letC_le S.1 k
    rw [f_X6_unlike_L4, if_pos rfl, ob_some, if_neg (show ¬ (4 : Int32) ≤ nI k from nI_ge hk (by decide)), if_pos rfl, s_letters hF h hr hk, ob_some, ob_some]
    by_cases e : letC S.1 k = 0
    · rw [if_pos ((nI_pos0 (by omega)).mpr e), if_pos e, ob_some, show (0 : Int32) = nI 0 from rfl, show (1 : Int32) = nI 1 from rfl, nI_add, ob_some, nI_add, ob_some]
    · rw [if_neg (fun z => e ((nI_pos0 (by omega)).mp z)), if_neg e, ob_some, show (1 : Int32) = nI 1 from rfl, nI_add, ob_some, nI_add, ob_some]
theorem s_un1 {F : Nat} (hF : 1100000 ≤ F) {s : Nat → Int32} {S : AS} (h : StM s S) (hr : RowOk S.1) : f_X6_unlike F s 1 = some (nI (sumF (fun x => if pc S.1 x = 0 then 0 else 1) 0 16)) := by
  have hl := hr.1
  have key := loop_sum (Lp := f_X6_unlike_L4 F s (1 : Int32)) (N := 16) 0 (f := fun x => if pc S.1 x = 0 then 0 else 1) ?_ ?_ 16 F 0 0 (Nat.le_refl _) rfl (by omega) (by omega)
  · unfold f_X6_unlike
    have key' : f_X6_unlike_L4 F s (1 : Int32) F (0 : Int32) (0 : Int32) = _ := key
    rw [key', ob_some, Nat.zero_add]
  · intro n a k h1 h2
    rw [f_X6_unlike_L4, if_neg ne10, ob_some, if_pos (show (16 : Int32) ≤ nI k from nI_le h1 (by omega))]
  · intro n a k _ hk
    have := pc_le S.1 k
    rw [f_X6_unlike_L4, if_neg ne10, ob_some, if_neg (show ¬ (16 : Int32) ≤ nI k from nI_ge hk (by decide)), if_neg ne10, s_pairs hF h hr hk, ob_some, ob_some]
    by_cases e : pc S.1 k = 0
    · rw [if_pos ((nI_pos0 (by omega)).mpr e), if_pos e, ob_some, show (0 : Int32) = nI 0 from rfl, show (1 : Int32) = nI 1 from rfl, nI_add, ob_some, nI_add, ob_some]
    · rw [if_neg (fun z => e ((nI_pos0 (by omega)).mp z)), if_neg e, ob_some, show (1 : Int32) = nI 1 from rfl, nI_add, ob_some, nI_add, ob_some]
theorem st_count {F : Nat} (hF : 1100000 ≤ F) {x_pastStates : Int32} {x_now_row : Int32} {x_now_table : Int32} {x_now_kept : Int32} {x_now_book : Nat → Int32} {x_text_length : Int32} {x_text_signs : Nat → Int32} {p0_row : Int32} {p0_table : Int32} {p0_kept : Int32} {p0_book : Nat → Int32} {p1_row : Int32} {p1_table : Int32} {p1_kept : Int32} {p1_book : Nat → Int32} {p2_row : Int32} {p2_table : Int32} {p2_kept : Int32} {p2_book : Nat → Int32} {p3_row : Int32} {p3_table : Int32} {p3_kept : Int32} {p3_book : Nat → Int32} {m_pasts : Int32} {m_runs0 : Int32} {m_typed : Int32} {m_s : Nat → Int32} {m_past : Nat → Int32} {m_text : Nat → Int32} (h : Rel x_pastStates x_now_row x_now_table x_now_kept x_now_book x_text_length x_text_signs p0_row p0_table p0_kept p0_book p1_row p1_table p1_kept p1_book p2_row p2_table p2_kept p2_book p3_row p3_table p3_kept p3_book m_pasts m_runs0 m_typed m_s m_past m_text) (x_measured_which : Int32) (x_measured_x : Int32) (x_measured_y : Int32) (x_measured_row : Int32) (x_measured_table : Int32) (a1 : Int32) : ∃ rx rm, f_X5_count F x_pastStates x_now_row x_now_table x_now_kept x_text_length x_measured_which x_measured_x x_measured_y x_measured_row x_measured_table a1 = some rx ∧ f_X6_count F m_pasts m_typed m_s a1 = some rm ∧ rx.1 = rm ∧ Rel x_pastStates x_now_row x_now_table x_now_kept x_now_book x_text_length x_text_signs p0_row p0_table p0_kept p0_book p1_row p1_table p1_kept p1_book p2_row p2_table p2_kept p2_book p3_row p3_table p3_kept p3_book m_pasts m_runs0 m_typed m_s m_past m_text := by
  obtain ⟨⟨r, t, bk⟩, hs, tx, hC, hM, hH, hHM, rfl, hT⟩ := h
  have hr : RowOk r := hC.2.1
  have hl := hr.1
  have e3 : x_now_row = encR r := hC.1
  have e4 : m_s 0 = nI r.length := hM.1
  have htab : TabC x_now_table t := hC.2.2.1
  have hR : Rel x_pastStates x_now_row x_now_table x_now_kept x_now_book x_text_length x_text_signs p0_row p0_table p0_kept p0_book p1_row p1_table p1_kept p1_book p2_row p2_table p2_kept p2_book p3_row p3_table p3_kept p3_book m_pasts 0 m_typed m_s m_past m_text := ⟨(r, t, bk), hs, tx, hC, hM, hH, hHM, rfl, hT⟩
  by_cases h0 : a1 = 0
  · apply mkst
    · unfold f_X5_count; rw [if_pos h0, e3, s_lengthOf F hr, ob_some]
    · unfold f_X6_count; rw [if_pos h0, rd0 _ (by decide) (by decide), ob_some]
    · exact ⟨e4.symm, hR⟩
  by_cases h1 : a1 = 1
  · apply mkst
    · unfold f_X5_count; rw [if_neg h0, if_pos h1, e3, s_unL hF hr, ob_some]
    · unfold f_X6_count; rw [if_neg h0, if_pos h1, if_neg (show ¬ a1 = 2 by rw [h1]; decide), ob_some, s_un0 hF hM hr, ob_some]
    · exact ⟨rfl, hR⟩
  by_cases h2 : a1 = 2
  · apply mkst
    · unfold f_X5_count; rw [if_neg h0, if_neg h1, if_pos h2, e3, s_unP hF hr, ob_some]
    · unfold f_X6_count; rw [if_neg h0, if_neg h1, if_pos h2, if_pos h2, ob_some, s_un1 hF hM hr, ob_some]
    · exact ⟨rfl, hR⟩
  by_cases h3 : a1 = 3
  · apply mkst
    · unfold f_X5_count f_X0_set
      rw [if_neg h0, if_neg h1, if_neg h2, if_pos h3, ob_some, e3]
      have e := s_ofRow (w := 1) (x := 0) (y := 0) hF hr htab (by decide) (by decide) (by decide)
      have e' : f_X0_ofRow F (1 : Int32) (0 : Int32) (0 : Int32) (encR r) x_now_table = some (nI (ms 1 0 0 r t r)) := e
      simp only [e', ob_some]
      rfl
    · unfold f_X6_count
      rw [if_neg h0, if_neg h1, if_neg h2, if_pos h3, show f_X6_runsOf_m_s F m_s (1 : Int32) = some (nI (ms 1 0 0 r t r)) from s_runs_m_s (fr := 1) (q := r) hF hM rfl hl (by omega) (fun i hi => ⟨hM.2.1 i hi, gl_lt hr.2 i⟩) 0 0 r t, ob_some]
    · exact ⟨rfl, hR⟩
  by_cases h5 : a1 = 4
  · apply mkst
    · unfold f_X5_count; rw [if_neg h0, if_neg h1, if_neg h2, if_neg h3, if_pos h5, e3, s_lengthOf F hr, ob_some]
    · unfold f_X6_count; rw [if_neg h0, if_neg h1, if_neg h2, if_neg h3, if_pos h5, rd0 _ (by decide) (by decide), ob_some]
    · exact ⟨by dsimp only; rw [e4], hR⟩
  by_cases h6 : a1 = 5
  · apply mkst
    · unfold f_X5_count; rw [if_neg h0, if_neg h1, if_neg h2, if_neg h3, if_neg h5, if_pos h6]
    · unfold f_X6_count; rw [if_neg h0, if_neg h1, if_neg h2, if_neg h3, if_neg h5, if_pos h6, show rd 116 m_s (27 : Int32) = some (m_s 27) from rd_ok (i := 27) _ (by decide) (by decide), ob_some]
    · exact ⟨hC.2.2.2.1.trans hM.2.2.2.1.symm, hR⟩
  by_cases h7 : a1 = 6
  · apply mkst
    · unfold f_X5_count; rw [if_neg h0, if_neg h1, if_neg h2, if_neg h3, if_neg h5, if_neg h6, if_pos h7]
    · unfold f_X6_count; rw [if_neg h0, if_neg h1, if_neg h2, if_neg h3, if_neg h5, if_neg h6, if_pos h7]
    · exact ⟨hH.1.trans hHM.1.symm, hR⟩
  by_cases h8 : a1 = 7
  · apply mkst
    · unfold f_X5_count; rw [if_neg h0, if_neg h1, if_neg h2, if_neg h3, if_neg h5, if_neg h6, if_neg h7, if_pos h8]
    · unfold f_X6_count; rw [if_neg h0, if_neg h1, if_neg h2, if_neg h3, if_neg h5, if_neg h6, if_neg h7, if_pos h8]
    · exact ⟨hT.1.trans hT.2.1.symm, hR⟩
  · apply mkst
    · unfold f_X5_count; rw [if_neg h0, if_neg h1, if_neg h2, if_neg h3, if_neg h5, if_neg h6, if_neg h7, if_neg h8]
    · unfold f_X6_count; rw [if_neg h0, if_neg h1, if_neg h2, if_neg h3, if_neg h5, if_neg h6, if_neg h7, if_neg h8]
    · exact ⟨rfl, hR⟩
