theorem walkI {F : Nat} (hF : 1100000 ≤ F) {s : Nat → Int32} {S : AS} (h : StM s S) (hr : RowOk S.1) {σ τ : Type} (I : σ → Prop) (Lp : Nat → σ → Int32 → (Nat → Int32) → Option τ) (st : σ → List Nat → σ) (out : σ → (Nat → Int32) → τ) (hI : ∀ a q, q ∈ Arr S.1 → I a → I (st a q)) (hx : ∀ n a now, Lp (n + 1) a 0 now = some (out a now)) (hs : ∀ n a now q, I a → q ∈ Arr S.1 → Nw now q → Lp (n + 1) a 1 now = (f_X6_goes F s now).bind fun z => Lp n (st a q) z.1 z.2) : ∀ (post : List (List Nat)) (pre : List (List Nat)) (q : List Nat) (n : Nat) (a : σ) (now : Nat → Int32), I a → Arr S.1 = pre ++ q :: post → Nw now q → post.length + 1 < n → ∃ now', Lp n a 1 now = some (out (List.foldl st a (q :: post)) now') := by
  intro post
  induction post with
  | nil =>
    intro pre q n a now hIa hA hv hn
    obtain ⟨m, rfl⟩ : ∃ m, n = m + 2 := ⟨n - 2, by rw [List.length_nil] at hn; omega⟩
    have hq : q ∈ Arr S.1 := by rw [hA]; exact List.mem_append.mpr (Or.inr List.mem_cons_self)
    rcases s_goesA hF h hr hA hv with ⟨-, e⟩ | ⟨q2, post', now', e, -⟩
    · exact ⟨now, by rw [hs _ _ _ q hIa hq hv, e, ob_some]; exact hx _ _ _⟩
    · cases e
  | cons q1 post ih =>
    intro pre q n a now hIa hA hv hn
    rw [List.length_cons] at hn
    obtain ⟨m, rfl⟩ : ∃ m, n = m + 1 := ⟨n - 1, by omega⟩
    have hq : q ∈ Arr S.1 := by rw [hA]; exact List.mem_append.mpr (Or.inr List.mem_cons_self)
    rcases s_goesA hF h hr hA hv with ⟨e, -⟩ | ⟨q2, post', now', e, eg, hv'⟩
    · cases e
    · cases e
      obtain ⟨now2, e2⟩ := ih (pre ++ [q]) q1 m (st a q) now' (hI a q hq hIa) (by rw [hA, List.append_assoc]; rfl) hv' (by omega)
      exact ⟨now2, by rw [hs _ _ _ q hIa hq hv, eg, ob_some]; exact e2⟩
-- what the reference tells while it goes through: many, as great, least, one more than the most, sum, first
abbrev S6 : Type := Nat × Nat × Nat × Nat × Nat × Nat
def st6 (f : List Nat → Nat) (own : Nat) (a : S6) (q : List Nat) : S6 :=
  (a.1 + 1, a.2.1 + (if f q < own then 0 else 1), (if a.2.2.1 ≤ f q then a.2.2.1 else f q), (if f q + 1 ≤ a.2.2.2.1 then a.2.2.2.1 else f q + 1), a.2.2.2.2.1 + f q, (if f q + 1 ≤ a.2.2.2.1 then a.2.2.2.2.2 else a.1))
def In6 (f : List Nat → Nat) (own : Nat) (d : List (List Nat)) (a : S6) : Prop :=
  a.1 = d.length ∧ a.2.1 = (d.filter (fun w => decide (own ≤ f w))).length ∧ ((∀ w ∈ d, a.2.2.1 ≤ f w) ∧ (a.2.2.1 = 99 ∨ ∃ w ∈ d, f w = a.2.2.1)) ∧ ((∀ w ∈ d, f w + 1 ≤ a.2.2.2.1) ∧ ((d = [] ∧ a.2.2.2.1 = 0) ∨ ∃ w, d[a.2.2.2.2.2]? = some w ∧ f w + 1 = a.2.2.2.1 ∧ ∀ (j : Nat) (v : List Nat), j < a.2.2.2.2.2 → d[j]? = some v → f v + 1 < a.2.2.2.1)) ∧ a.2.2.2.2.1 = tot f d
theorem In6.step {f : List Nat → Nat} {own : Nat} {d : List (List Nat)} {a : S6} (h : In6 f own d a) (q : List Nat) (hq : f q ≤ 98) : In6 f own (d ++ [q]) (st6 f own a q) := by
  obtain ⟨many, as, least, M, sum, first⟩ := a
  obtain ⟨h1, h2, ⟨h3, h4⟩, ⟨h5, h6⟩, h7⟩ := h
  dsimp only at h1 h2 h3 h4 h5 h6 h7
  unfold In6 st6
  dsimp only
  refine ⟨by rw [List.length_append, h1]; rfl, ?_, ⟨?_, ?_⟩, ⟨?_, ?_⟩, by rw [tot_snoc, h7]⟩
  · rw [List.filter_append, List.length_append, h2]
    congr 1
    by_cases e : f q < own
    · rw [if_pos e, List.filter_cons_of_neg (p := fun w => decide (own ≤ f w)) (by rw [decide_eq_false (by omega)]; decide)]
      rfl
    · rw [if_neg e, List.filter_cons_of_pos (p := fun w => decide (own ≤ f w)) (decide_eq_true (by omega))]
      rfl
  · intro w hw
    rcases List.mem_append.mp hw with hw | hw
    · have := h3 w hw
      by_cases e : least ≤ f q
      · rw [if_pos e]; exact this
      · rw [if_neg e]; omega
    · rw [List.mem_singleton.mp hw]
      by_cases e : least ≤ f q
      · rw [if_pos e]; exact e
      · rw [if_neg e]; exact Nat.le_refl _
  · by_cases e : least ≤ f q
    · rw [if_pos e]
      rcases h4 with h4 | ⟨w, hw, e4⟩
      · exact Or.inl h4
      · exact Or.inr ⟨w, List.mem_append.mpr (Or.inl hw), e4⟩
    · rw [if_neg e]
      exact Or.inr ⟨q, List.mem_append.mpr (Or.inr List.mem_cons_self), rfl⟩
  · intro w hw
    rcases List.mem_append.mp hw with hw | hw
    · have := h5 w hw
      by_cases e : f q + 1 ≤ M
      · rw [if_pos e]; exact this
      · rw [if_neg e]; omega
    · rw [List.mem_singleton.mp hw]
      by_cases e : f q + 1 ≤ M
      · rw [if_pos e]; exact e
      · rw [if_neg e]; exact Nat.le_refl _
  · right
    by_cases e : f q + 1 ≤ M
    · rw [if_pos e, if_pos e]
      rcases h6 with ⟨-, h6⟩ | ⟨w, hw, e6, e7⟩
      · omega
      · refine ⟨w, get_l hw, e6, fun j v hj hv => e7 j v hj ?_⟩
        have := (List.getElem?_eq_some_iff.mp hw).1
        rw [List.getElem?_append_left (by omega)] at hv
        exact hv
    · rw [if_neg e, if_neg e]
      refine ⟨q, by rw [h1]; exact get_r (i := 0) rfl, rfl, fun j v hj hv => ?_⟩
      rw [List.getElem?_append_left (by omega)] at hv
      have := h5 v (List.mem_of_getElem? hv)
      omega
theorem In6.fold {f : List Nat → Nat} {own : Nat} : ∀ (l d : List (List Nat)) (a : S6), In6 f own d a → (∀ w ∈ l, f w ≤ 98) → In6 f own (d ++ l) (List.foldl (st6 f own) a l)
  | [], d, a, h, _ => by rw [List.append_nil]; exact h
  | q :: l, d, a, h, hl => by
    have ih := In6.fold l (d ++ [q]) (st6 f own a q) (h.step q (hl q List.mem_cons_self)) (fun w hw => hl w (List.mem_cons_of_mem _ hw))
    rw [List.append_assoc] at ih
    exact ih
theorem In6.nil (f : List Nat → Nat) (own : Nat) : In6 f own [] (0, 0, 99, 0, 0, 0) := ⟨rfl, rfl, ⟨fun _ h => (by cases h), Or.inl rfl⟩, ⟨fun _ h => (by cases h), Or.inl ⟨rfl, rfl⟩⟩, rfl⟩
theorem m1_le : ∀ x, x < 99 → ¬ nI x ≤ (-1 : Int32) := by decide +kernel
theorem le_M {x M : Nat} (hx : x ≤ 98) (hM : M ≤ 99) : nI x ≤ nI M - 1 ↔ x + 1 ≤ M := by
  cases M with
  | zero => exact ⟨fun h => absurd h (m1_le x (by omega)), fun h => absurd h (by omega)⟩
  | succ k =>
    rw [show (1 : Int32) = nI 1 from rfl, nI_sub (by omega), Nat.add_sub_cancel, nI_leI (by omega) (by omega)]
    omega
theorem s_L83 {F : Nat} (hF : 1100000 ≤ F) {s : Nat → Int32} {S : AS} (h : StM s S) (hr : RowOk S.1) (ht : ∀ k, k < 16 → S.2.1 k < 4) {now1 kept1 : Nat → Int32} (hv : Nw now1 (srtTo S.1 4)) (hk : ∀ k, k < 16 → kept1 k = nI (pc S.1 k)) {k w x y own : Nat} (hk4 : k < 4) (hw : w < 4) (hx : x < 4) (hy : y < 4) (hown : own ≤ 98) : ∃ a : S6, ∃ now', f_X6_surprise_L83 F s (nI k) (nI w) (nI x) (nI y) (nI own) (now1, kept1) F (0 : Int32) (0 : Int32) (99 : Int32) (-1 : Int32) (0 : Int32) (0 : Int32) (1 : Int32) now1 = some (nI a.2.1, nI a.2.2.1, nI a.2.2.2.1 - 1, nI a.2.2.2.2.1, nI a.2.2.2.2.2, now') ∧ In6 (ms w x y S.1 S.2.1) own (SH k S) a := by
  have hl := hr.1
  have hms : ∀ q, q ∈ Arr S.1 → ms w x y S.1 S.2.1 q ≤ 10 := fun q hq => by
    have h1 := ms_le w x y S.1 S.2.1 q
    have h2 := (mem_Arr.mp hq).1
    omega
  obtain ⟨tl, eA⟩ := Arr_head hr.2
  have hAl := Arr_len hl
  rw [eA, List.length_cons] at hAl
  have key := walkI hF h hr (σ := S6) (fun a => a.2.2.1 ≤ 99 ∧ a.2.2.2.1 ≤ 99) (fun n a fl nw => f_X6_surprise_L83 F s (nI k) (nI w) (nI x) (nI y) (nI own) (now1, kept1) n (nI a.1) (nI a.2.1) (nI a.2.2.1) (nI a.2.2.2.1 - 1) (nI a.2.2.2.2.1) (nI a.2.2.2.2.2) fl nw) (fun a q => if okN k S.1 S.2.1 q == 1 then st6 (ms w x y S.1 S.2.1) own a q else a) (fun a nw => (nI a.2.1, nI a.2.2.1, nI a.2.2.2.1 - 1, nI a.2.2.2.2.1, nI a.2.2.2.2.2, nw)) (fun a q hq hI => by
    have hm := hms q hq
    rcases okN_01 k S.1 S.2.1 q with e | e
    · rw [e]; exact hI
    · rw [e]
      show (if a.2.2.1 ≤ ms w x y S.1 S.2.1 q then a.2.2.1 else ms w x y S.1 S.2.1 q) ≤ 99 ∧ (if ms w x y S.1 S.2.1 q + 1 ≤ a.2.2.2.1 then a.2.2.2.1 else ms w x y S.1 S.2.1 q + 1) ≤ 99
      have h1 := hI.1
      have h2 := hI.2
      constructor
      · by_cases c : a.2.2.1 ≤ ms w x y S.1 S.2.1 q
        · rw [if_pos c]; exact h1
        · rw [if_neg c]; omega
      · by_cases c : ms w x y S.1 S.2.1 q + 1 ≤ a.2.2.2.1
        · rw [if_pos c]; exact h2
        · rw [if_neg c]; omega) (fun n a nw => by rw [f_X6_surprise_L83, if_pos rfl]) (fun n a nw q hI hq hv => by
    have hm := hms q hq
    have hql := (mem_Arr.mp hq).1
    obtain ⟨h1, h2⟩ := hI
    rw [f_X6_surprise_L83, if_neg ne10, s_isOne hF h hr ht hv hql hk hk4, ob_some]
    rcases okN_01 k S.1 S.2.1 q with e | e
    · rw [e, if_pos (show nI 0 = (0 : Int32) from rfl), ob_some]
      rfl
    · rw [e, if_neg (show ¬ nI 1 = (0 : Int32) from ne10), show (0 : Int32) = nI 0 from rfl, s_told_m_now hF h hr ht hql (by omega) hv hw hx hy, ob_some]
      obtain ⟨many, as, least, M, sum, first⟩ := a
      dsimp only at h1 h2 ⊢
      have c1 : (if nI (ms w x y S.1 S.2.1 q) < nI own then some (nI 0) else some (1 : Int32)) = some (nI (if ms w x y S.1 S.2.1 q < own then 0 else 1)) := by
        by_cases c : ms w x y S.1 S.2.1 q < own
        · rw [if_pos (nI_lt c (by omega)), if_pos c]
        · rw [if_neg (nI_nlt (by omega) (by omega)), if_neg c]; rfl
      have c2 : (if nI least ≤ nI (ms w x y S.1 S.2.1 q) then some (nI least) else some (nI (ms w x y S.1 S.2.1 q))) = some (nI (if least ≤ ms w x y S.1 S.2.1 q then least else ms w x y S.1 S.2.1 q)) := by
        by_cases c : least ≤ ms w x y S.1 S.2.1 q
        · rw [if_pos (nI_le c (by omega)), if_pos c]
        · rw [if_neg (nI_ge (by omega) (by omega)), if_neg c]
      have c3 : (if nI (ms w x y S.1 S.2.1 q) ≤ nI M - 1 then some (nI first) else some (nI many)) = some (nI (if ms w x y S.1 S.2.1 q + 1 ≤ M then first else many)) := by
        by_cases c : ms w x y S.1 S.2.1 q + 1 ≤ M
        · rw [if_pos ((le_M (by omega) h2).mpr c), if_pos c]
        · rw [if_neg (fun z => c ((le_M (by omega) h2).mp z)), if_neg c]
      have c4 : (if nI (ms w x y S.1 S.2.1 q) ≤ nI M - 1 then some (nI M - 1) else some (nI (ms w x y S.1 S.2.1 q))) = some (nI (if ms w x y S.1 S.2.1 q + 1 ≤ M then M else ms w x y S.1 S.2.1 q + 1) - 1) := by
        by_cases c : ms w x y S.1 S.2.1 q + 1 ≤ M
        · rw [if_pos ((le_M (by omega) h2).mpr c), if_pos c]
        · rw [if_neg (fun z => c ((le_M (by omega) h2).mp z)), if_neg c, show (1 : Int32) = nI 1 from rfl, nI_sub (by omega), Nat.add_sub_cancel]
      rw [c1, ob_some, nI_add, ob_some, c2, ob_some, c3, ob_some, c4, ob_some, nI_add, ob_some, show (1 : Int32) = nI 1 from rfl, nI_add, ob_some, ob_some]
      rfl) tl [] (srtTo S.1 4) F (0, 0, 99, 0, 0, 0) now1 (by decide) eA hv (by omega)
  obtain ⟨now', e⟩ := key
  refine ⟨_, now', e, ?_⟩
  rw [← eA, ← List.foldl_filter]
  have hI := In6.fold (f := ms w x y S.1 S.2.1) (own := own) (SH k S) [] _ (In6.nil _ own) (fun v hv => by
    have := hms v (List.mem_filter.mp hv).1
    omega)
  exact hI
theorem w4 (F : Nat) (x : Int32) : (f_X5_within F x 4 = some 0 ∧ f_X6_in F x 0 4 = some 0) ∨ (∃ j : Nat, j ≤ 4 ∧ x = nI j ∧ f_X5_within F x 4 = some 1 ∧ f_X6_in F x 0 4 = some 1) := w_cases F x (m := 4) (by decide)
theorem s_openM {F : Nat} (hF : 1100000 ≤ F) {k w x y : Nat} (hk : k < 4) (hw : w < 4) (hx : x < 4) (hy : y < 4) {r : List Nat} {t : Nat → Nat} (hr : RowOk r) {tb : Int32} (hT : TabC tb t) (stock weight known found : Nat → Int32) : ∃ st w' kn fd, f_X4_openMeasured_wM F stock weight known found (nI w) (nI x) (nI y) (encR r) tb (encR r) tb (nI k) = some (false, nI (r.length + 1), encR r, encR ((KW k r t).cds (r.length / 2)), tb, nI r.length, nI (lf (KW k r t).c (KW k r t).c 16), nI (bN (KW k r t).P), nI (bN (KW k r t).C), st, w', kn, fd) ∧ WLf (KW k r t) st w' ∧ Inv4 (KW k r t) (gn w x y r t) (r.length + 1) 0 kn fd ∧ kn 576 ≠ 0 ∧ Cl4 (KW k r t) 0 kn ∧ ∀ p a b, p < r.length → a < 4 → b < 4 → f_X4_gain F false (nI w) (nI x) (nI y) (encR r) tb (nI p) (nI a) (nI b) = some (nI (gn w x y r t p a b)) ∧ gn w x y r t p a b ≤ 1 := by
  have hl := hr.1
  obtain ⟨e1, e2⟩ := KW_keeps F hk r t
  have ht : ∀ k, k < 16 → t k < 4 := fun k hk => (hT k hk).2
  have hG : ∀ p a b, p < r.length → a < 4 → b < 4 → f_X4_gain F false (nI w) (nI x) (nI y) (encR r) tb (nI p) (nI a) (nI b) = some (nI (gn w x y r t p a b)) ∧ gn w x y r t p a b ≤ 1 := by
    intro p a b hp ha hb
    refine ⟨?_, gn_le _ _ _ _ _ _ _ _⟩
    unfold f_X4_gain
    rw [if_pos rfl, s_gain F hr hT hw hx hy (by omega) ha hb, ob_some, ob_some]
  obtain ⟨st, w', kn0, ep, hL, h0⟩ := s_prepare hF (K := KW k r t) hr ht hT false stock weight known
  obtain ⟨kn, fd, es, i, kk, cl⟩ := s_table hF (K := KW k r t) hr ht hT hL h0 found (mm := false) (mw := nI w) (mx := nI x) (my := nI y) (mr := encR r) (mt := tb) (gg := gn w x y r t) (V := r.length + 1) (by omega) (by omega) hG
  refine ⟨st, w', kn, fd, ?_, hL, i, kk, cl, hG⟩
  have ep' : f_X4_prepare F false (nI (bN (KW k r t).P)) stock weight known (encR r) tb = some (nI (r.length + 1), encR r, encR ((KW k r t).cds (r.length / 2)), tb, nI r.length, nI (lf (KW k r t).c (KW k r t).c 16), st, w', kn0) := ep
  have es' : f_X4_solve F 12 false (nI (r.length + 1)) (encR r) (encR ((KW k r t).cds (r.length / 2))) tb (nI r.length) (nI (bN (KW k r t).P)) (nI (bN (KW k r t).C)) st w' kn0 found (nI w) (nI x) (nI y) (encR r) tb (nI (lf (KW k r t).c (KW k r t).c 16)) (0 : Int32) (0 : Int32) = some (kn, fd) := es
  unfold f_X4_openMeasured_wM
  rw [e1, ob_some, ckz_b, ob_some, e2, ob_some, ckz_b, ob_some, ep', ob_some, es', ob_some]
theorem st_surprise {F : Nat} (hF : 1100000 ≤ F) {x_pastStates : Int32} {x_now_row : Int32} {x_now_table : Int32} {x_now_kept : Int32} {x_now_book : Nat → Int32} {x_text_length : Int32} {x_text_signs : Nat → Int32} {p0_row : Int32} {p0_table : Int32} {p0_kept : Int32} {p0_book : Nat → Int32} {p1_row : Int32} {p1_table : Int32} {p1_kept : Int32} {p1_book : Nat → Int32} {p2_row : Int32} {p2_table : Int32} {p2_kept : Int32} {p2_book : Nat → Int32} {p3_row : Int32} {p3_table : Int32} {p3_kept : Int32} {p3_book : Nat → Int32} {m_pasts : Int32} {m_runs0 : Int32} {m_typed : Int32} {m_s : Nat → Int32} {m_past : Nat → Int32} {m_text : Nat → Int32} (h : Rel x_pastStates x_now_row x_now_table x_now_kept x_now_book x_text_length x_text_signs p0_row p0_table p0_kept p0_book p1_row p1_table p1_kept p1_book p2_row p2_table p2_kept p2_book p3_row p3_table p3_kept p3_book m_pasts m_runs0 m_typed m_s m_past m_text) (x_ways_measure : Bool) (x_ways_values : Int32) (x_ways_row : Int32) (x_ways_rowCodes : Int32) (x_ways_table : Int32) (x_ways_length : Int32) (x_ways_full : Int32) (x_ways_pairs : Int32) (x_ways_codes : Int32) (x_ways_stock : Nat → Int32) (x_ways_weight : Nat → Int32) (x_ways_known : Nat → Int32) (x_ways_found : Nat → Int32) (x_measured_which : Int32) (x_measured_x : Int32) (x_measured_y : Int32) (x_measured_row : Int32) (x_measured_table : Int32) (m_now : Nat → Int32) (m_kept : Nat → Int32) (a1 : Int32) (a2 : Int32) (a3 : Int32) (a4 : Int32) (a5 : Int32) : ∃ rx rm, f_X5_surprise F x_now_row x_now_table x_ways_measure x_ways_values x_ways_row x_ways_rowCodes x_ways_table x_ways_length x_ways_full x_ways_pairs x_ways_codes x_ways_stock x_ways_weight x_ways_known x_ways_found x_measured_which x_measured_x x_measured_y x_measured_row x_measured_table a1 a2 a3 a4 a5 = some rx ∧ f_X6_surprise F m_s m_now m_kept a1 a2 a3 a4 a5 = some rm ∧ rx.1 = rm.1 ∧ Rel x_pastStates x_now_row x_now_table x_now_kept x_now_book x_text_length x_text_signs p0_row p0_table p0_kept p0_book p1_row p1_table p1_kept p1_book p2_row p2_table p2_kept p2_book p3_row p3_table p3_kept p3_book m_pasts m_runs0 m_typed m_s m_past m_text := by
  obtain ⟨⟨r, t, bk⟩, hs, tx, hC, hM, hH, hHM, rfl, hT⟩ := h
  have hr : RowOk r := hC.2.1
  have h10 : r.length ≤ 10 := hr.1
  have e3 : x_now_row = encR r := hC.1
  have htab : TabC x_now_table t := hC.2.2.1
  have ht : ∀ k, k < 16 → t k < 4 := fun k hk => (htab k hk).2
  have hR : Rel x_pastStates x_now_row x_now_table x_now_kept x_now_book x_text_length x_text_signs p0_row p0_table p0_kept p0_book p1_row p1_table p1_kept p1_book p2_row p2_table p2_kept p2_book p3_row p3_table p3_kept p3_book m_pasts 0 m_typed m_s m_past m_text := ⟨(r, t, bk), hs, tx, hC, hM, hH, hHM, rfl, hT⟩
  rcases c4 F a1 with ⟨e1, e2⟩ | ⟨k, hk, rfl, e1, e2⟩
  · apply mkst
    · unfold f_X5_surprise; rw [e1, ob_some, if_pos rfl]
    · unfold f_X6_surprise; rw [e2, ob_some, if_pos rfl]
    · exact ⟨rfl, hR⟩
  rcases c4 F a2 with ⟨f1, f2⟩ | ⟨w, hw, rfl, f1, f2⟩
  · apply mkst
    · unfold f_X5_surprise; rw [e1, ob_some, if_neg ne10, f1, ob_some, if_pos rfl]
    · unfold f_X6_surprise; rw [e2, ob_some, if_neg ne10, f2, ob_some, if_pos rfl]
    · exact ⟨rfl, hR⟩
  rcases c4 F a3 with ⟨g1, g2⟩ | ⟨x, hx, rfl, g1, g2⟩
  · apply mkst
    · unfold f_X5_surprise; rw [e1, ob_some, if_neg ne10, f1, ob_some, if_neg ne10, g1, ob_some, if_pos rfl]
    · unfold f_X6_surprise; rw [e2, ob_some, if_neg ne10, f2, ob_some, if_neg ne10, g2, ob_some, if_pos rfl]
    · exact ⟨rfl, hR⟩
  rcases c4 F a4 with ⟨h1, h2⟩ | ⟨y, hy, rfl, h1, h2⟩
  · apply mkst
    · unfold f_X5_surprise; rw [e1, ob_some, if_neg ne10, f1, ob_some, if_neg ne10, g1, ob_some, if_neg ne10, h1, ob_some, if_pos rfl]
    · unfold f_X6_surprise; rw [e2, ob_some, if_neg ne10, f2, ob_some, if_neg ne10, g2, ob_some, if_neg ne10, h2, ob_some, if_pos rfl]
    · exact ⟨rfl, hR⟩
  rcases w4 F a5 with ⟨j1, j2⟩ | ⟨v, hv5, rfl, j1, j2⟩
  · apply mkst
    · unfold f_X5_surprise; rw [e1, ob_some, if_neg ne10, f1, ob_some, if_neg ne10, g1, ob_some, if_neg ne10, h1, ob_some, if_neg ne10, j1, ob_some, if_pos rfl]
    · unfold f_X6_surprise; rw [e2, ob_some, if_neg ne10, f2, ob_some, if_neg ne10, g2, ob_some, if_neg ne10, h2, ob_some, if_neg ne10, j2, ob_some, if_pos rfl]
    · exact ⟨rfl, hR⟩
  have hown : ms w x y r t r ≤ 10 := Nat.le_trans (ms_le _ _ _ _ _ _) h10
  obtain ⟨pre, post, -, -, hS, -⟩ := s_place hF hM hr ht m_now m_kept hk
  obtain ⟨now1, kept1, eb, hnv, hkp⟩ := s_begin hF (S := (r, t, bk)) hM hr m_now m_kept
  obtain ⟨a, now2, eL, hI⟩ := s_L83 hF (S := (r, t, bk)) hM hr ht hnv hkp hk hw hx hy (own := ms w x y r t r) (by omega)
  obtain ⟨st, w', kn, fd, eo, hL, inv, kk, cl, hG⟩ := s_openM hF hk hw hx hy hr htab x_ways_stock x_ways_weight x_ways_known x_ways_found
  have eown := s_ofRow hF hr htab hw hx hy
  have etold := told_own hF (S := (r, t, bk)) hM hr ht hw hx hy
  have hcs : (KW k r t).cs r.length (KW k r t).c 0 = SH k (r, t, bk) := KW_cs hk hr bk
  have hcn : ∀ g, (KW k r t).cn (gn w x y r t) r.length (KW k r t).c 0 g = cntF (ms w x y r t) (SH k (r, t, bk)) g := by
    intro g
    unfold WC.cn cntF
    rw [hcs, show (KW k r t).r.length - r.length = 0 from Nat.sub_self _]
    congr 1
    refine List.filter_congr (fun q _ => ?_)
    rw [gs_ms]
  have h576 : ∀ g, g < r.length + 1 → fd (576 * 11 + g) = nI (cntF (ms w x y r t) (SH k (r, t, bk)) g) := by
    intro g hg
    rw [← hcn]
    exact inv (KW k r t).c 0 0 (RS.init _) (Nat.le_refl _) kk g hg
  have hcb : ∀ g, cntF (ms w x y r t) (SH k (r, t, bk)) g < 2 ^ 31 := by
    intro g
    have b1 := SH_len (k := k) (t := t) (bk := bk) hr
    have b2 : cntF (ms w x y r t) (SH k (r, t, bk)) g ≤ (SH k (r, t, bk)).length := List.length_filter_le _ _
    omega
  have hfb : ∀ q, q ∈ SH k (r, t, bk) → ms w x y r t q < r.length + 1 := by
    intro q hq
    have b1 := ms_le w x y r t q
    have b2 : q.length = r.length := (mem_Arr.mp (List.mem_filter.mp hq).1).1
    omega
  have hrS : r ∈ SH k (r, t, bk) := by rw [hS]; exact List.mem_append.mpr (Or.inr List.mem_cons_self)
  obtain ⟨many, as, least, M, sum, first⟩ := a
  obtain ⟨i1, i2, ⟨i3, i4⟩, ⟨i5, i6⟩, i7⟩ := hI
  dsimp only at eL i1 i2 i3 i4 i5 i6 i7
  have hl1 := i3 r hrS
  have hM1 := i5 r hrS
  have hrV := hfb r hrS
  obtain ⟨wl, hwl, ewl⟩ : ∃ q, q ∈ SH k (r, t, bk) ∧ ms w x y r t q = least := by
    rcases i4 with i4 | i4
    · have hl1' : least ≤ ms w x y r t r := hl1
      omega
    · exact i4
  obtain ⟨wm, hwm, ewm, hbef⟩ : ∃ q, (SH k (r, t, bk))[first]? = some q ∧ ms w x y r t q + 1 = M ∧ ∀ (j : Nat) (v : List Nat), j < first → (SH k (r, t, bk))[j]? = some v → ms w x y r t v + 1 < M := by
    rcases i6 with ⟨i6, -⟩ | i6
    · rw [i6] at hrS; cases hrS
    · exact i6
  have hwmS := List.mem_of_getElem? hwm
  have hwmV := hfb wm hwmS
  have eg := s_greatest hF (V := r.length + 1) (v := M - 1) (by omega) (fun g hg => ⟨h576 g hg, hcb g⟩) (by omega) (cntF_pos.mpr ⟨wm, hwmS, by omega⟩) (fun y' hy' _ => by
    by_cases c : cntF (ms w x y r t) (SH k (r, t, bk)) y' = 0
    · exact c
    · obtain ⟨q, hq, e⟩ := cntF_pos.mp c
      have := i5 q hq
      omega)
  have hC5 : ∀ (a5 : Int32) (res : Int32), f_X5_within F a5 4 = some 1 → f_X6_in F a5 0 4 = some 1 → (if a5 = (0 : Int32) then (f_X4_atLeast F (nI (r.length + 1)) fd (nI (ms w x y r t r))) else if a5 = 1 then f_X4_least F (nI (r.length + 1)) fd else if a5 = 2 then f_X4_greatest F (nI (r.length + 1)) fd else if a5 = 3 then f_X4_sum F (nI (r.length + 1)) fd else (f_X4_greatest F (nI (r.length + 1)) fd).bind fun g => f_X4_firstPlaceWith F false (nI (r.length + 1)) (encR r) (encR ((KW k r t).cds (r.length / 2))) x_now_table (nI r.length) (nI (lf (KW k r t).c (KW k r t).c 16)) (nI (bN (KW k r t).P)) (nI (bN (KW k r t).C)) st w' fd (nI w) (nI x) (nI y) (encR r) x_now_table g) = some res → ((if a5 = 0 then some (nI as) else if a5 = 1 then some (nI least) else if a5 = 2 then some (nI M - 1) else if a5 = 3 then some (nI sum) else some (nI first)) : Option Int32) = some res → ∃ rx rm, f_X5_surprise F x_now_row x_now_table x_ways_measure x_ways_values x_ways_row x_ways_rowCodes x_ways_table x_ways_length x_ways_full x_ways_pairs x_ways_codes x_ways_stock x_ways_weight x_ways_known x_ways_found x_measured_which x_measured_x x_measured_y x_measured_row x_measured_table (nI k) (nI w) (nI x) (nI y) a5 = some rx ∧ f_X6_surprise F m_s m_now m_kept (nI k) (nI w) (nI x) (nI y) a5 = some rm ∧ rx.1 = rm.1 := by
    intro a5 res j1 j2 hx5 hm5
    have em : f_X6_surprise F m_s m_now m_kept (nI k) (nI w) (nI x) (nI y) a5 = some (res, now2, kept1) := by
      unfold f_X6_surprise
      rw [e2, ob_some, if_neg ne10, f2, ob_some, if_neg ne10, g2, ob_some, if_neg ne10, h2, ob_some, if_neg ne10, j2, ob_some, if_neg ne10, etold, ob_some, eb, ob_some, eL, ob_some, hm5, ob_some]
    by_cases c0 : a5 = 0
    · rw [if_pos c0] at hx5
      apply mkst (hb := em)
      · unfold f_X5_surprise f_X0_set
        rw [e1, ob_some, if_neg ne10, f1, ob_some, if_neg ne10, g1, ob_some, if_neg ne10, h1, ob_some, if_neg ne10, j1, ob_some, if_neg ne10, ob_some, e3, eo, ob_some, if_pos c0, eown, ob_some, hx5, ob_some]
      · rfl
    rw [if_neg c0] at hx5
    by_cases c1 : a5 = 1
    · rw [if_pos c1] at hx5
      apply mkst (hb := em)
      · unfold f_X5_surprise f_X0_set
        rw [e1, ob_some, if_neg ne10, f1, ob_some, if_neg ne10, g1, ob_some, if_neg ne10, h1, ob_some, if_neg ne10, j1, ob_some, if_neg ne10, ob_some, e3, eo, ob_some, if_neg c0, if_pos c1, hx5, ob_some]
      · rfl
    rw [if_neg c1] at hx5
    by_cases c2 : a5 = 2
    · rw [if_pos c2] at hx5
      apply mkst (hb := em)
      · unfold f_X5_surprise f_X0_set
        rw [e1, ob_some, if_neg ne10, f1, ob_some, if_neg ne10, g1, ob_some, if_neg ne10, h1, ob_some, if_neg ne10, j1, ob_some, if_neg ne10, ob_some, e3, eo, ob_some, if_neg c0, if_neg c1, if_pos c2, hx5, ob_some]
      · rfl
    rw [if_neg c2] at hx5
    by_cases c3 : a5 = 3
    · rw [if_pos c3] at hx5
      apply mkst (hb := em)
      · unfold f_X5_surprise f_X0_set
        rw [e1, ob_some, if_neg ne10, f1, ob_some, if_neg ne10, g1, ob_some, if_neg ne10, h1, ob_some, if_neg ne10, j1, ob_some, if_neg ne10, ob_some, e3, eo, ob_some, if_neg c0, if_neg c1, if_neg c2, if_pos c3, hx5, ob_some]
      · rfl
    rw [if_neg c3, eg, ob_some] at hx5
    apply mkst (hb := em)
    · unfold f_X5_surprise f_X0_set
      rw [e1, ob_some, if_neg ne10, f1, ob_some, if_neg ne10, g1, ob_some, if_neg ne10, h1, ob_some, if_neg ne10, j1, ob_some, if_neg ne10, ob_some, e3, eo, ob_some, if_neg c0, if_neg c1, if_neg c2, if_neg c3, eg, ob_some, hx5, ob_some]
    · rfl
  have fin : ∃ rx rm, f_X5_surprise F x_now_row x_now_table x_ways_measure x_ways_values x_ways_row x_ways_rowCodes x_ways_table x_ways_length x_ways_full x_ways_pairs x_ways_codes x_ways_stock x_ways_weight x_ways_known x_ways_found x_measured_which x_measured_x x_measured_y x_measured_row x_measured_table (nI k) (nI w) (nI x) (nI y) (nI v) = some rx ∧ f_X6_surprise F m_s m_now m_kept (nI k) (nI w) (nI x) (nI y) (nI v) = some rm ∧ rx.1 = rm.1 := by
    rcases (show v = 0 ∨ v = 1 ∨ v = 2 ∨ v = 3 ∨ v = 4 by omega) with rfl | rfl | rfl | rfl | rfl
    · refine hC5 (nI 0) (nI as) j1 j2 ?_ (if_pos rfl)
      rw [if_pos (show nI 0 = (0 : Int32) from rfl), s_atLeast hF (V := r.length + 1) (b := ms w x y r t r) (c := cntF (ms w x y r t) (SH k (r, t, bk))) (by omega) (by omega) h576, cnt_ge (b := ms w x y r t r) (V := r.length + 1) _ (by omega) _ hfb, i2]
    · refine hC5 (nI 1) (nI least) j1 j2 ?_ rfl
      show f_X4_least F (nI (r.length + 1)) fd = _
      exact s_least hF (V := r.length + 1) (v := least) (by omega) (fun g hg => ⟨h576 g hg, hcb g⟩) (by omega) (cntF_pos.mpr ⟨wl, hwl, ewl⟩) (fun y' hy' => by
        by_cases c : cntF (ms w x y r t) (SH k (r, t, bk)) y' = 0
        · exact c
        · obtain ⟨q, hq, e⟩ := cntF_pos.mp c
          have := i3 q hq
          omega)
    · refine hC5 (nI 2) (nI (M - 1)) j1 j2 eg ?_
      show some (nI M - 1) = _
      rw [show (1 : Int32) = nI 1 from rfl, nI_sub (by omega)]
    · refine hC5 (nI 3) (nI sum) j1 j2 ?_ rfl
      show f_X4_sum F (nI (r.length + 1)) fd = _
      rw [s_sum hF (V := r.length + 1) (c := cntF (ms w x y r t) (SH k (r, t, bk))) (by omega) h576, cnt_sum _ _ hfb, i7]
    · refine hC5 (nI 4) (nI first) j1 j2 ?_ rfl
      show (f_X4_greatest F (nI (r.length + 1)) fd).bind _ = _
      rw [eg, ob_some]
      have e16 := s_first16 hF (K := KW k r t) hr ht htab hL (V := r.length + 1) (by omega) (GsB_gn _ w x y r t) hG inv cl r.length F (KW k r t).c 0 0 (M - 1) 0 (Nat.zero_add _) (by omega) (RS.init _) kk (by omega) (by rw [hcn]; exact cntF_pos.mpr ⟨wm, hwmS, by omega⟩)
      have e16' : f_X4_firstPlaceWith_L16 F false (nI (r.length + 1)) (encR r) (encR ((KW k r t).cds (r.length / 2))) x_now_table (nI r.length) (nI (bN (KW k r t).P)) (nI (bN (KW k r t).C)) st w' fd (nI w) (nI x) (nI y) (encR r) x_now_table F (0 : Int32) (nI (M - 1)) (nI (lf (KW k r t).c (KW k r t).c 16)) (0 : Int32) (0 : Int32) = some (nI (0 + (KW k r t).fi (gn w x y r t) r.length (KW k r t).c 0 (M - 1))) := e16
      have efi : (KW k r t).fi (gn w x y r t) r.length (KW k r t).c 0 (M - 1) = first := by
        unfold WC.fi
        rw [hcs, show (KW k r t).r.length - r.length = 0 from Nat.sub_self _]
        obtain ⟨hlt, hget⟩ := List.getElem?_eq_some_iff.mp hwm
        refine (List.findIdx_eq hlt).mpr ⟨?_, fun j hj => ?_⟩
        · rw [hget, gs_ms, beq_iff_eq]; omega
        · have := hbef j _ hj (List.getElem?_eq_getElem (Nat.lt_trans hj hlt))
          rw [gs_ms, beq_eq_false_iff_ne]
          omega
      unfold f_X4_firstPlaceWith
      rw [e16', ob_some, efi, Nat.zero_add]
  obtain ⟨rx, rm, q1, q2, q3⟩ := fin
  exact ⟨rx, rm, q1, q2, q3, hR⟩
