-- all words in order; the arrangements of a row
def allW : Nat → List (List Nat)
  | 0 => [[]]
  | m + 1 => (allW m).map (List.cons 0) ++ ((allW m).map (List.cons 1) ++ ((allW m).map (List.cons 2) ++ (allW m).map (List.cons 3)))
theorem allW_len : ∀ m, (allW m).length = 4 ^ m
  | 0 => rfl
  | m + 1 => by
    have ih := allW_len m
    show ((allW m).map (List.cons 0) ++ ((allW m).map (List.cons 1) ++ ((allW m).map (List.cons 2) ++ (allW m).map (List.cons 3)))).length = _
    simp only [List.length_append, List.length_map]
    rw [ih, Nat.pow_succ]
    omega
theorem mem_allW : ∀ (m : Nat) (q : List Nat), q ∈ allW m ↔ (q.length = m ∧ ∀ x ∈ q, x < 4)
  | 0, q => by
    show q ∈ [[]] ↔ _
    rw [List.mem_singleton]
    constructor
    · rintro rfl; exact ⟨rfl, fun _ h => by cases h⟩
    · rintro ⟨h, -⟩; exact List.length_eq_zero_iff.mp h
  | m + 1, q => by
    show q ∈ (allW m).map (List.cons 0) ++ ((allW m).map (List.cons 1) ++ ((allW m).map (List.cons 2) ++ (allW m).map (List.cons 3))) ↔ _
    simp only [List.mem_append, List.mem_map]
    constructor
    · rintro (⟨w, h, rfl⟩ | ⟨w, h, rfl⟩ | ⟨w, h, rfl⟩ | ⟨w, h, rfl⟩) <;>
      · obtain ⟨h1, h2⟩ := (mem_allW m w).mp h
        refine ⟨by rw [List.length_cons, h1], fun x hx => ?_⟩
        rcases List.mem_cons.mp hx with e | e
        · omega
        · exact h2 x e
    · rintro ⟨h1, h2⟩
      cases q with
      | nil => cases h1
      | cons a w =>
        have ha := h2 a List.mem_cons_self
        have hw : w ∈ allW m := (mem_allW m w).mpr ⟨by rw [List.length_cons] at h1; omega, fun x hx => h2 x (List.mem_cons_of_mem _ hx)⟩
        rcases (show a = 0 ∨ a = 1 ∨ a = 2 ∨ a = 3 by omega) with rfl | rfl | rfl | rfl
        · exact Or.inl ⟨w, hw, rfl⟩
        · exact Or.inr (Or.inl ⟨w, hw, rfl⟩)
        · exact Or.inr (Or.inr (Or.inl ⟨w, hw, rfl⟩))
        · exact Or.inr (Or.inr (Or.inr ⟨w, hw, rfl⟩))
theorem allW_pw : ∀ m, (allW m).Pairwise Llt
  | 0 => List.pairwise_singleton _ _
  | m + 1 => by
    have ih := allW_pw m
    have b : ∀ x, ((allW m).map (List.cons x)).Pairwise Llt := fun x => List.pairwise_map.mpr (ih.imp (fun h => Or.inr ⟨rfl, h⟩))
    have c : ∀ x y, x < y → ∀ a ∈ (allW m).map (List.cons x), ∀ b ∈ (allW m).map (List.cons y), Llt a b := by
      intro x y hxy a ha b hb
      obtain ⟨w, -, rfl⟩ := List.mem_map.mp ha
      obtain ⟨v, -, rfl⟩ := List.mem_map.mp hb
      exact Or.inl hxy
    refine List.pairwise_append.mpr ⟨b 0, List.pairwise_append.mpr ⟨b 1, List.pairwise_append.mpr ⟨b 2, b 3, c 2 3 (by decide)⟩, ?_⟩, ?_⟩
    · intro p hp q hq
      rcases List.mem_append.mp hq with h | h
      · exact c 1 2 (by decide) p hp q h
      · exact c 1 3 (by decide) p hp q h
    · intro p hp q hq
      rcases List.mem_append.mp hq with h | h
      · exact c 0 1 (by decide) p hp q h
      · rcases List.mem_append.mp h with h | h
        · exact c 0 2 (by decide) p hp q h
        · exact c 0 3 (by decide) p hp q h
def Arr (r : List Nat) : List (List Nat) := (allW r.length).filter (fun q => decide (SL r q))
theorem mem_Arr {r q : List Nat} : q ∈ Arr r ↔ q.length = r.length ∧ (∀ x ∈ q, x < 4) ∧ SL r q := by
  unfold Arr
  rw [List.mem_filter, mem_allW, decide_eq_true_iff]
  exact ⟨fun h => ⟨h.1.1, h.1.2, h.2⟩, fun h => ⟨⟨h.1, h.2.1⟩, h.2.2⟩⟩
theorem Arr_pw (r : List Nat) : (Arr r).Pairwise Llt := (allW_pw _).filter _
theorem Arr_len {r : List Nat} (h : r.length ≤ 10) : (Arr r).length ≤ 1048576 := by
  refine Nat.le_trans (List.length_filter_le _ _) ?_
  rw [allW_len]
  exact Nat.pow_le_pow_right (by decide) h
theorem letC_ge {q : List Nat} (h : ∀ x ∈ q, x < 4) {z : Nat} (hz : 4 ≤ z) : letC q z = 0 := by
  rcases Nat.eq_zero_or_pos (letC q z) with e | e
  · exact e
  · have := h z (letC_mem e)
    omega
theorem SL_all {r q : List Nat} (hr : ∀ x ∈ r, x < 4) (hq : ∀ x ∈ q, x < 4) (h : SL r q) (z : Nat) : letC r z = letC q z := by
  rcases Nat.lt_or_ge z 4 with e | e
  · exact h z e
  · rw [letC_ge hr e, letC_ge hq e]
theorem letC_rep (n x z : Nat) : letC (List.replicate n x) z = if x = z then n else 0 := by
  induction n with
  | zero => show (0 : Nat) = _; split <;> rfl
  | succ n ih =>
    rw [List.replicate_succ, letC_cons, ih]
    by_cases e : x = z
    · rw [if_pos e, if_pos e, if_pos e]; omega
    · rw [if_neg e, if_neg e, if_neg e]
theorem srtTo_c (r : List Nat) (z : Nat) : ∀ x, letC (srtTo r x) z = if z < x then letC r z else 0
  | 0 => rfl
  | x + 1 => by
    show letC (srtTo r x ++ List.replicate (letC r x) x) z = _
    rw [letC_app, srtTo_c r z x, letC_rep]
    by_cases e : x = z
    · subst e
      rw [if_neg (by omega), if_pos rfl, if_pos (by omega)]; omega
    · rw [if_neg e]
      by_cases e2 : z < x
      · rw [if_pos e2, if_pos (by omega), Nat.add_zero]
      · rw [if_neg e2, if_neg (by omega)]
theorem srtTo_lt (r : List Nat) : ∀ x, ∀ z ∈ srtTo r x, z < x
  | 0, _, h => by cases h
  | x + 1, z, h => by
    rcases List.mem_append.mp h with h | h
    · have := srtTo_lt r x z h; omega
    · have := (List.mem_replicate.mp h).2; omega
theorem srtTo_pw (r : List Nat) : ∀ x, (srtTo r x).Pairwise (fun a b => a ≤ b)
  | 0 => List.Pairwise.nil
  | x + 1 => by
    refine List.pairwise_append.mpr ⟨srtTo_pw r x, ?_, fun a ha b hb => ?_⟩
    · exact List.pairwise_replicate.mpr (Or.inr (Nat.le_refl _))
    · have := srtTo_lt r x a ha
      have := (List.mem_replicate.mp hb).2
      omega
theorem srt_mem {r : List Nat} (h : ∀ x ∈ r, x < 4) : srtTo r 4 ∈ Arr r := mem_Arr.mpr ⟨srt_len h, srtTo_lt r 4, fun x hx => by rw [srtTo_c, if_pos hx]⟩
theorem self_mem {r : List Nat} (h : ∀ x ∈ r, x < 4) : r ∈ Arr r := mem_Arr.mpr ⟨rfl, h, fun _ _ => rfl⟩
theorem Arr_head {r : List Nat} (h : ∀ x ∈ r, x < 4) : ∃ tl, Arr r = srtTo r 4 :: tl := by
  have hm := srt_mem h
  have hp := Arr_pw r
  cases e : Arr r with
  | nil => rw [e] at hm; cases hm
  | cons a tl =>
    refine ⟨tl, ?_⟩
    rw [e] at hm hp
    rcases List.mem_cons.mp hm with e1 | e1
    · rw [e1]
    · have ha : a ∈ Arr r := by rw [e]; exact List.mem_cons_self
      obtain ⟨h1, h2, h3⟩ := mem_Arr.mp ha
      have hs := mem_Arr.mp (srt_mem h)
      refine absurd ((List.pairwise_cons.mp hp).1 _ e1) (no_less (srtTo_pw r 4) a (fun y => ?_))
      rw [← SL_all h h2 h3, ← SL_all h hs.2.1 hs.2.2]
theorem s_goesA {F : Nat} (hF : 1100000 ≤ F) {s : Nat → Int32} {S : AS} (h : StM s S) (hr : RowOk S.1) {now : Nat → Int32} {q : List Nat} {pre post : List (List Nat)} (hA : Arr S.1 = pre ++ q :: post) (hv : Nw now q) : (post = [] ∧ f_X6_goes F s now = some (0, now)) ∨ ∃ q2 post' now', post = q2 :: post' ∧ f_X6_goes F s now = some (1, now') ∧ Nw now' q2 := by
  have hm : ∀ w, w ∈ Arr S.1 ↔ w ∈ pre ++ q :: post := fun w => by rw [hA]
  have hq := mem_Arr.mp ((hm q).mpr (List.mem_append.mpr (Or.inr List.mem_cons_self)))
  have hp := Arr_pw S.1
  rw [hA] at hp
  obtain ⟨hp1, hp2, hp3⟩ := List.pairwise_append.mp hp
  obtain ⟨hp4, hp5⟩ := List.pairwise_cons.mp hp2
  have cnt : ∀ w, w ∈ Arr S.1 → ∀ z, letC w z = letC q z := by
    intro w hw z
    obtain ⟨a1, a2, a3⟩ := mem_Arr.mp hw
    rw [← SL_all hr.2 a2 a3, ← SL_all hr.2 hq.2.1 hq.2.2]
  rcases s_goes hF h hr hv hq.1 with ⟨e, hd⟩ | ⟨now', q', e, hv', hl', hc', hlt, hno⟩
  · left
    refine ⟨?_, e⟩
    cases post with
    | nil => rfl
    | cons q2 post =>
      exact absurd (hp4 q2 List.mem_cons_self) (no_more hd q2 (cnt q2 ((hm q2).mpr (List.mem_append.mpr (Or.inr (List.mem_cons_of_mem _ List.mem_cons_self))))))
  · right
    have hq' : q' ∈ Arr S.1 := mem_Arr.mpr ⟨by rw [hl', hq.1], fun x hx => by
      have := letC_mem (q := q) (y := x) (by rw [← hc']; exact letC_pos hx)
      exact hq.2.1 x this, fun x hx => by rw [hc']; exact hq.2.2 x hx⟩
    have hq3 : q' ∈ post := by
      rcases List.mem_append.mp ((hm q').mp hq') with e1 | e1
      · exact absurd (Llt_tr _ _ _ hlt (hp3 q' e1 q List.mem_cons_self)) (Llt_irr q)
      · rcases List.mem_cons.mp e1 with e2 | e2
        · rw [e2] at hlt; exact absurd hlt (Llt_irr q)
        · exact e2
    cases post with
    | nil => cases hq3
    | cons q2 post =>
      rcases List.mem_cons.mp hq3 with e2 | e2
      · subst e2
        exact ⟨q', post, now', rfl, e, hv'⟩
      · have h2 : q2 ∈ Arr S.1 := (hm q2).mpr (List.mem_append.mpr (Or.inr (List.mem_cons_of_mem _ List.mem_cons_self)))
        exact absurd ((List.pairwise_cons.mp hp5).1 q' e2) (fun h3 => hno q2 (cnt q2 h2) (hp4 q2 List.mem_cons_self) h3)
