theorem Nw.at {now : Nat → Int32} {q : List Nat} (h : Nw now q) {i : Nat} (hi : i < q.length) : now i = nI (gl q i) ∧ gl q i < 4 := by
  have e := h i hi
  rw [Nat.zero_add] at e
  exact e
theorem g11 {F : Nat} {now : Nat → Int32} {q : List Nat} (hv : Nw now q) (hl : q.length ≤ 10) : ∀ (k n : Nat), k < q.length → k < n → (∀ j, k ≤ j → j + 1 < q.length → gl q (j + 1) ≤ gl q j) → (f_X6_goes_L11 F now n (nI k - 1) = some (nI 0 - 1) ∧ ∀ j, j + 1 < q.length → gl q (j + 1) ≤ gl q j) ∨ ∃ i, f_X6_goes_L11 F now n (nI k - 1) = some (nI i) ∧ i + 1 < q.length ∧ gl q i < gl q (i + 1) ∧ ∀ j, i + 1 ≤ j → j + 1 < q.length → gl q (j + 1) ≤ gl q j := by
  intro k
  induction k with
  | zero =>
    intro n _ hn hd
    obtain ⟨m, rfl⟩ : ∃ m, n = m + 1 := ⟨n - 1, by omega⟩
    left
    exact ⟨by rw [f_X6_goes_L11, if_pos (show nI 0 - 1 < (0 : Int32) by decide)], fun j h => hd j (Nat.zero_le _) h⟩
  | succ k ih =>
    intro n hk hn hd
    obtain ⟨m, rfl⟩ : ∃ m, n = m + 1 := ⟨n - 1, by omega⟩
    obtain ⟨v1, b1⟩ := hv.at (show k < q.length by omega)
    obtain ⟨v2, b2⟩ := hv.at hk
    have e1 : nI (k + 1) - 1 = nI k := by rw [show (1 : Int32) = nI 1 from rfl, nI_sub (by omega), Nat.add_sub_cancel]
    by_cases c : gl q k < gl q (k + 1)
    · right
      refine ⟨k, ?_, hk, c, fun j h => hd j h⟩
      rw [e1, f_X6_goes_L11, if_neg (nI_pos (by omega)), rd_ok _ (by omega) (by decide), ob_some, show (1 : Int32) = nI 1 from rfl, nI_add, rd_ok _ (by omega) (by decide), ob_some, v1, v2, if_pos (nI_lt c (by omega))]
    · have step : f_X6_goes_L11 F now (m + 1) (nI (k + 1) - 1) = f_X6_goes_L11 F now m (nI k - 1) := by
        rw [e1, f_X6_goes_L11, if_neg (nI_pos (by omega)), rd_ok _ (by omega) (by decide), ob_some, show nI k + 1 = nI (k + 1) from nI_add k 1, rd_ok _ (by omega) (by decide), ob_some, v1, v2, if_neg (nI_nlt (by omega) (by omega)), ← Int32.sub_eq_add_neg, ob_some]
      rw [step]
      refine ih m (by omega) (by omega) (fun j h1 h2 => ?_)
      by_cases e : j = k
      · subst e; omega
      · exact hd j (by omega) h2
theorem g48 {F : Nat} {now : Nat → Int32} {q : List Nat} (hv : Nw now q) (hl : q.length ≤ 10) {i : Nat} (hi : i + 1 < q.length) (hlt : gl q i < gl q (i + 1)) : ∀ (k n : Nat), k < q.length → k < n → i + 1 ≤ k → (∀ l, k < l → l < q.length → gl q l ≤ gl q i) → ∃ j, f_X6_goes_L48 F now (nI i) n (nI k) = some (nI j) ∧ i < j ∧ j < q.length ∧ gl q i < gl q j ∧ ∀ l, j < l → l < q.length → gl q l ≤ gl q i := by
  intro k
  induction k with
  | zero => intro n _ _ h; omega
  | succ k ih =>
    intro n hk hn hik hd
    obtain ⟨m, rfl⟩ : ∃ m, n = m + 1 := ⟨n - 1, by omega⟩
    obtain ⟨v1, b1⟩ := hv.at (show i < q.length by omega)
    obtain ⟨v2, b2⟩ := hv.at hk
    by_cases c : gl q i < gl q (k + 1)
    · refine ⟨k + 1, ?_, by omega, hk, c, hd⟩
      rw [f_X6_goes_L48, rd_ok _ (by omega) (by decide), ob_some, rd_ok _ (by omega) (by decide), ob_some, v1, v2, if_pos (nI_lt c (by omega))]
    · have hne : i ≠ k := fun e => c (by rw [← e]; exact hlt)
      obtain ⟨j, e, p⟩ := ih m (by omega) (by omega) (by omega) (fun l h1 h2 => by
        by_cases e : l = k + 1
        · subst e; omega
        · exact hd l (by omega) h2)
      refine ⟨j, ?_, p⟩
      rw [f_X6_goes_L48, rd_ok _ (by omega) (by decide), ob_some, rd_ok _ (by omega) (by decide), ob_some, v1, v2, if_neg (nI_nlt (by omega) (by omega)), ← Int32.sub_eq_add_neg, show (1 : Int32) = nI 1 from rfl, nI_sub (by omega), Nat.add_sub_cancel, ob_some]
      exact e
theorem s_swaps (F : Nat) (now : Nat → Int32) {a b : Nat} (ha : a < 10) (hb : b < 10) : f_X6_swaps F now (nI a) (nI b) = some (upd (upd now a (now b)) b (now a)) := by
  unfold f_X6_swaps
  rw [rd_ok _ ha (by decide), ob_some, rd_ok _ hb (by decide), ob_some, wr_ok _ _ ha (by decide), ob_some, wr_ok _ _ hb (by decide), ob_some]
theorem g85 (F : Nat) : ∀ (d n a b : Nat) (g : Nat → Int32), b + 1 ≤ a + 2 * d → d < n → 1 ≤ a → a ≤ b + 1 → b < 10 → f_X6_goes_L85 F n (nI a) (nI b) g = some (fun t => if a ≤ t ∧ t ≤ b then g (a + b - t) else g t) := by
  intro d
  induction d with
  | zero =>
    intro n a b g h1 hn h2 h3 h4
    obtain ⟨m, rfl⟩ : ∃ m, n = m + 1 := ⟨n - 1, by omega⟩
    rw [f_X6_goes_L85, if_pos (nI_le (by omega) (by omega))]
    congr 1
    funext t
    rw [if_neg (by omega)]
  | succ d ih =>
    intro n a b g h1 hn h2 h3 h4
    obtain ⟨m, rfl⟩ : ∃ m, n = m + 1 := ⟨n - 1, by omega⟩
    by_cases c : b ≤ a
    · rw [f_X6_goes_L85, if_pos (nI_le c (by omega))]
      congr 1
      funext t
      by_cases e : a ≤ t ∧ t ≤ b
      · rw [if_pos e, show a + b - t = t by omega]
      · rw [if_neg e]
    · rw [f_X6_goes_L85, if_neg (nI_ge (by omega) (by omega)), s_swaps F g (by omega) (by omega), ob_some, ← Int32.sub_eq_add_neg, show (1 : Int32) = nI 1 from rfl, nI_add, nI_sub (by omega), ob_some, ob_some, ih m (a + 1) (b - 1) _ (by omega) (by omega) (by omega) (by omega) (by omega)]
      congr 1
      funext t
      unfold upd
      by_cases e1 : a + 1 ≤ t ∧ t ≤ b - 1
      · rw [if_pos e1, if_pos (show a ≤ t ∧ t ≤ b by omega), if_neg (by omega), if_neg (by omega), show a + 1 + (b - 1) - t = a + b - t by omega]
      · rw [if_neg e1]
        by_cases e2 : t = b
        · rw [if_pos e2, if_pos (show a ≤ t ∧ t ≤ b by omega), show a + b - t = a by omega]
        · rw [if_neg e2]
          by_cases e3 : t = a
          · rw [if_pos e3, if_pos (show a ≤ t ∧ t ≤ b by omega), show a + b - t = b by omega]
          · rw [if_neg e3, if_neg (by omega)]
theorem s_goes {F : Nat} (hF : 1100000 ≤ F) {s : Nat → Int32} {S : AS} (h : StM s S) (hr : RowOk S.1) {now : Nat → Int32} {q : List Nat} (hv : Nw now q) (hq : q.length = S.1.length) : (f_X6_goes F s now = some (0, now) ∧ q.Pairwise (fun a b => b ≤ a)) ∨ ∃ now' q', f_X6_goes F s now = some (1, now') ∧ Nw now' q' ∧ q'.length = q.length ∧ (∀ z, letC q' z = letC q z) ∧ Llt q q' ∧ ∀ w, (∀ z, letC w z = letC q z) → Llt q w → Llt w q' → False := by
  have hl := hr.1
  have tr : ∀ a b c : Nat, b ≤ a → c ≤ b → c ≤ a := fun a b c h1 h2 => Nat.le_trans h2 h1
  unfold f_X6_goes
  rw [rd0 _ (by decide) (by decide), ob_some, h.1, ← hq, ob_some]
  by_cases hl0 : q.length = 0
  · left
    have e : q = [] := List.length_eq_zero_iff.mp hl0
    obtain ⟨m, rfl⟩ : ∃ m, F = m + 1 := ⟨F - 1, by omega⟩
    refine ⟨?_, by rw [e]; exact List.Pairwise.nil⟩
    rw [hl0, f_X6_goes_L11, if_pos (show nI 0 - 2 < (0 : Int32) by decide), ob_some, if_neg (show ¬ (0 : Int32) ≤ nI 0 - 2 by decide)]
  have e2 : nI q.length - 2 = nI (q.length - 1) - 1 := by
    have e : ∀ l : Nat, l < 11 → 1 ≤ l → nI l - 2 = nI (l - 1) - 1 := by decide
    exact e _ (by omega) (by omega)
  rw [e2]
  rcases g11 (F := F) hv (by omega) (q.length - 1) F (by omega) (by omega) (fun j h1 h2 => by omega) with ⟨e, hd⟩ | ⟨i, e, hi, hlt, hd⟩
  · left
    refine ⟨?_, pw_of tr q hd⟩
    rw [e, ob_some, if_neg (show ¬ (0 : Int32) ≤ nI 0 - 1 by decide)]
  · right
    obtain ⟨j, ej, hij, hj, hgj, hjd⟩ := g48 (F := F) hv (by omega) hi hlt (q.length - 1) F (by omega) (by omega) (by omega) (fun l h1 h2 => by omega)
    rw [e, ob_some, if_pos (show (0 : Int32) ≤ nI i from nI_le (a := 0) (Nat.zero_le _) (by omega)), show (1 : Int32) = nI 1 from rfl, nI_sub (by omega), ob_some, ej, ob_some, s_swaps F now (by omega) (by omega), ob_some, nI_add, ob_some, ob_some, g85 F 5 F (i + 1) (q.length - 1) _ (by omega) (by omega) (by omega) (by omega) (by omega), ob_some]
    obtain ⟨p, x, d1, y, d2, hqe, hp, hd1⟩ : ∃ p x d1 y d2, q = p ++ x :: (d1 ++ y :: d2) ∧ p.length = i ∧ d1.length = j - (i + 1) := by
      refine ⟨q.take i, gl q i, (q.drop (i + 1)).take (j - (i + 1)), gl (q.drop (i + 1)) (j - (i + 1)), (q.drop (i + 1)).drop (j - (i + 1) + 1), ?_, ?_, ?_⟩
      · rw [← split3 (show j - (i + 1) < (q.drop (i + 1)).length by rw [List.length_drop]; omega)]
        exact split3 (by omega)
      · rw [List.length_take]; omega
      · rw [List.length_take, List.length_drop]; omega
    have hlen : q.length = p.length + (d1.length + (d2.length + 1) + 1) := by
      rw [hqe]; simp only [List.length_append, List.length_cons]
    have G : ∀ t, gl q t = if t < i then gl p t else if t = i then x else if t < j then gl d1 (t - (i + 1)) else if t = j then y else gl d2 (t - (j + 1)) := by
      intro t
      rw [hqe, gl_app, gl_cons, gl_app, gl_cons, hp, hd1]
      by_cases c1 : t < i
      · rw [if_pos c1, if_pos c1]
      · rw [if_neg c1, if_neg c1]
        by_cases c2 : t = i
        · rw [if_pos c2, if_pos (by omega)]
        · rw [if_neg c2, if_neg (by omega)]
          by_cases c3 : t < j
          · rw [if_pos c3, if_pos (by omega), show t - i - 1 = t - (i + 1) by omega]
          · rw [if_neg c3, if_neg (by omega)]
            by_cases c4 : t = j
            · rw [if_pos c4, if_pos (by omega)]
            · rw [if_neg c4, if_neg (by omega), show t - i - 1 - (j - (i + 1)) - 1 = t - (j + 1) by omega]
    have gx : gl q i = x := by rw [G, if_neg (by omega), if_pos rfl]
    have gy : gl q j = y := by rw [G, if_neg (by omega), if_neg (by omega), if_neg (by omega), if_pos rfl]
    have hxy : x < y := by rw [← gx, ← gy]; exact hgj
    have hD : (d1 ++ y :: d2).Pairwise (fun a b => b ≤ a) := by
      refine pw_of tr _ (fun t ht => ?_)
      have ht' : t + 1 < d1.length + (d2.length + 1) := by rw [List.length_append] at ht; exact ht
      have e5 : ∀ t, gl (d1 ++ y :: d2) t = gl q (i + 1 + t) := by
        intro t
        rw [hqe, gl_app p, gl_cons x, hp, if_neg (by omega), if_neg (by omega), show i + 1 + t - i - 1 = t by omega]
      rw [e5, e5]
      exact hd (i + 1 + t) (by omega) (by omega)
    have hd2 : ∀ z ∈ d2, z ≤ x := by
      intro z hz
      obtain ⟨t, ht, e6⟩ := List.getElem_of_mem hz
      have e7 : gl d2 t = z := by
        unfold gl
        rw [List.getD_eq_getElem?_getD, List.getElem?_eq_getElem ht, e6]
        rfl
      have e8 := hjd (j + 1 + t) (by omega) (by omega)
      rw [G, if_neg (by omega), if_neg (by omega), if_neg (by omega), if_neg (by omega), show j + 1 + t - (j + 1) = t by omega, e7, gx] at e8
      exact e8
    obtain ⟨pd1, pd2, p12⟩ := List.pairwise_append.mp hD
    have hE : (d1 ++ x :: d2).Pairwise (fun a b => b ≤ a) := by
      refine List.pairwise_append.mpr ⟨pd1, List.pairwise_cons.mpr ⟨hd2, (List.pairwise_cons.mp pd2).2⟩, fun a ha b hb => ?_⟩
      rcases List.mem_cons.mp hb with e9 | e9
      · have := p12 a ha y List.mem_cons_self
        omega
      · exact p12 a ha b (List.mem_cons_of_mem _ e9)
    have hs : (d1 ++ x :: d2).reverse.Pairwise (fun a b => a ≤ b) := List.pairwise_reverse.mpr hE
    have hc : ∀ z, letC (y :: (d1 ++ x :: d2).reverse) z = letC (x :: (d1 ++ y :: d2)) z := by
      intro z
      rw [letC_cons, letC_rev, letC_app, letC_cons, letC_cons, letC_app, letC_cons]
      omega
    have hz : ∀ z ∈ d1 ++ y :: d2, x < z → y ≤ z := by
      intro z hz1 hz2
      rcases List.mem_append.mp hz1 with e9 | e9
      · exact p12 z e9 y List.mem_cons_self
      · rcases List.mem_cons.mp e9 with e10 | e10
        · omega
        · have := hd2 z e10
          omega
    have hlen2 : (p ++ y :: (d1 ++ x :: d2).reverse).length = q.length := by
      rw [hlen]; simp only [List.length_append, List.length_cons, List.length_reverse]
    refine ⟨_, p ++ y :: (d1 ++ x :: d2).reverse, rfl, ?_, hlen2, ?_, ?_, ?_⟩
    · intro t ht
      rw [hlen2] at ht
      have key : ∃ t', t' < q.length ∧ (if i + 1 ≤ 0 + t ∧ 0 + t ≤ q.length - 1 then upd (upd now i (now j)) j (now i) (i + 1 + (q.length - 1) - (0 + t)) else upd (upd now i (now j)) j (now i) (0 + t)) = now t' ∧ gl (p ++ y :: (d1 ++ x :: d2).reverse) t = gl q t' := by
        rw [Nat.zero_add]
        by_cases c1 : t < i
        · refine ⟨t, ht, ?_, ?_⟩
          · rw [if_neg (by omega), upd_n _ _ (by omega), upd_n _ _ (by omega)]
          · rw [gl_app, if_pos (by omega), G, if_pos c1]
        · by_cases c2 : t = i
          · refine ⟨j, hj, ?_, ?_⟩
            · rw [if_neg (by omega), upd_n _ _ (by omega), c2, upd_s]
            · rw [gl_app, if_neg (by omega), gl_cons, if_pos (by omega), gy]
          · have hg : gl (p ++ y :: (d1 ++ x :: d2).reverse) t = gl (d1 ++ x :: d2) (i + 1 + (q.length - 1) - t - (i + 1)) := by
              rw [gl_app, if_neg (by omega), gl_cons, if_neg (by omega), gl_rev (by simp only [List.length_append, List.length_cons]; omega)]
              congr 1
              simp only [List.length_append, List.length_cons]
              omega
            by_cases c3 : i + 1 + (q.length - 1) - t = j
            · refine ⟨i, by omega, ?_, ?_⟩
              · rw [if_pos (by omega), c3, upd_s]
              · rw [hg, c3, gl_app, if_neg (by omega), gl_cons, if_pos (by omega), gx]
            · refine ⟨i + 1 + (q.length - 1) - t, by omega, ?_, ?_⟩
              · rw [if_pos (by omega), upd_n _ _ c3, upd_n _ _ (by omega)]
              · rw [hg, G, if_neg (by omega), if_neg (by omega), gl_app, gl_cons, hd1]
                by_cases c5 : i + 1 + (q.length - 1) - t < j
                · rw [if_pos c5, if_pos (by omega)]
                · rw [if_neg c5, if_neg c3, if_neg (by omega), if_neg (by omega)]
                  congr 1
                  omega
      obtain ⟨t', ht', k1, k2⟩ := key
      obtain ⟨v, b⟩ := hv.at ht'
      rw [k2]
      exact ⟨k1.trans v, b⟩
    · intro z
      rw [letC_app, hc, hqe, letC_app]
    · have e9 := Llt_step (d := d1 ++ y :: d2) (s := (d1 ++ x :: d2).reverse) hxy p
      rw [← hqe] at e9
      exact e9
    · intro w hw h1 h2
      refine no_between hD hs hc hz p w ?_ ?_ h2
      · rw [← hqe]; exact hw
      · rw [← hqe]; exact h1
