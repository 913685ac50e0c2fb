theorem okN_self (k : Nat) (r : List Nat) (t : Nat → Nat) : okN k r t r = 1 := by
  unfold okN
  split
  · rfl
  · exact if_pos (fun _ _ => rfl)
  · exact if_pos ⟨fun _ _ => rfl, rfl⟩
  · exact if_pos (fun _ _ => rfl)
theorem s_place {F : Nat} (hF : 1100000 ≤ F) {s : Nat → Int32} {S : AS} (h : StM s S) (hr : RowOk S.1) (ht : ∀ k, k < 16 → S.2.1 k < 4) (now kept : Nat → Int32) {k : Nat} (hk4 : k < 4) : ∃ pre post now' kept', SH k S = pre ++ S.1 :: post ∧ f_X6_place F s now kept (nI k) = some (nI pre.length, now', kept') := by
  have hrl := hr.1
  obtain ⟨now1, kept1, eb, hv1, hk⟩ := s_begin hF h hr now kept
  obtain ⟨mid, post, hA⟩ := List.append_of_mem (self_mem hr.2)
  have hp := Arr_pw S.1
  have hpp := hp
  rw [hA] at hpp
  have hlen := Arr_len hr.1
  rw [hA, List.length_append, List.length_cons] at hlen
  have key : ∀ (mid pre : List (List Nat)) (q : List Nat) (tl : List (List Nat)) (n a : Nat) (now : Nat → Int32), Arr S.1 = pre ++ q :: tl → q :: tl = mid ++ S.1 :: post → Nw now q → mid.length < n → ∃ now', f_X6_place_L6 F s (nI k) (now1, kept1) n (nI a) now = some (nI (a + (mid.filter (fun q => okN k S.1 S.2.1 q == 1)).length), now') := by
    intro mid
    induction mid with
    | nil =>
      intro pre q tl n a now h1 h2 hv hn
      obtain ⟨m, rfl⟩ : ∃ m, n = m + 1 := ⟨n - 1, by omega⟩
      have e : q = S.1 := by cases h2; rfl
      refine ⟨now, ?_⟩
      rw [f_X6_place_L6, s_same hF h hr hv (by rw [e]), ob_some, rd0 _ (by decide) (by decide), ob_some, h.1, e, agr_self, if_pos (nI_le (Nat.le_refl _) (by omega))]
      rfl
    | cons m0 mid ih =>
      intro pre q tl n a now h1 h2 hv hn
      rw [List.length_cons] at hn
      obtain ⟨m, rfl⟩ : ∃ m, n = m + 1 := ⟨n - 1, by omega⟩
      obtain ⟨rfl, rfl⟩ : q = m0 ∧ tl = mid ++ S.1 :: post := by rw [List.cons_append] at h2; cases h2; exact ⟨rfl, rfl⟩
      have hq : q ∈ Arr S.1 := by rw [h1]; exact List.mem_append.mpr (Or.inr List.mem_cons_self)
      have hql := (mem_Arr.mp hq).1
      have hne : q ≠ S.1 := by
        have h3 := hp
        rw [h1] at h3
        have h4 := (List.pairwise_cons.mp (List.pairwise_append.mp h3).2.1).1 S.1 (List.mem_append.mpr (Or.inr List.mem_cons_self))
        intro e
        rw [e] at h4
        exact Llt_irr _ h4
      have hag : agr S.1 q < S.1.length := by
        have b := agr_le S.1 q
        rcases Nat.lt_or_ge (agr S.1 q) S.1.length with e | e
        · exact e
        · exact absurd (agr_eq hql (by omega)) hne
      have hnext : ∃ q2 post', mid ++ S.1 :: post = q2 :: post' := by
        cases mid with
        | nil => exact ⟨_, _, rfl⟩
        | cons x y => exact ⟨_, _, rfl⟩
      rcases s_goesA hF h hr h1 hv with ⟨e, -⟩ | ⟨q2, post', now2, e, eg, hv2⟩
      · obtain ⟨q2, post', e'⟩ := hnext
        rw [e'] at e
        cases e
      · obtain ⟨now3, e3⟩ := ih (pre ++ [q]) q2 post' m (a + okN k S.1 S.2.1 q) now2 (by rw [h1, e, List.append_assoc]; rfl) e.symm hv2 (by omega)
        refine ⟨now3, ?_⟩
        rw [f_X6_place_L6, s_same hF h hr hv hql, ob_some, rd0 _ (by decide) (by decide), ob_some, h.1, if_neg (nI_ge hag (by omega)), s_isOne hF h hr ht hv hql hk hk4, ob_some, i01 _ (okN_01 _ _ _ _), ob_some, nI_add, ob_some, eg, ob_some]
        refine e3.trans ?_
        rcases okN_01 k S.1 S.2.1 q with e5 | e5
        · rw [List.filter_cons_of_neg (by rw [e5]; decide), e5]; rfl
        · rw [List.filter_cons_of_pos (by rw [e5]; decide), e5, List.length_cons, Nat.add_assoc a 1, Nat.add_comm 1]
  obtain ⟨tl, eh⟩ := Arr_head hr.2
  obtain ⟨now', e⟩ := key mid [] (srtTo S.1 4) tl F 0 now1 (by rw [eh]; rfl) (by rw [← eh, hA]) hv1 (by omega)
  refine ⟨mid.filter (fun q => okN k S.1 S.2.1 q == 1), post.filter (fun q => okN k S.1 S.2.1 q == 1), now', kept1, ?_, ?_⟩
  · unfold SH
    rw [hA, List.filter_append, List.filter_cons_of_pos (by rw [okN_self]; decide)]
  · unfold f_X6_place
    rw [Nat.zero_add] at e
    have e' : f_X6_place_L6 F s (nI k) (now1, kept1) F (0 : Int32) now1 = _ := e
    rw [eb, ob_some, e', ob_some]
theorem s_finds {F : Nat} (hF : 1100000 ≤ F) {s : Nat → Int32} {S : AS} (h : StM s S) (hr : RowOk S.1) (ht : ∀ k, k < 16 → S.2.1 k < 4) (now kept : Nat → Int32) {k : Nat} (hk4 : k < 4) {j : Nat} (hj : j < 2 ^ 31) : (∀ w, (SH k S)[j]? = some w → ∃ now' kept', f_X6_finds F s now kept (nI k) (nI j) = some (1, now', kept') ∧ Nw now' w) ∧ ((SH k S)[j]? = none → ∃ now' kept', f_X6_finds F s now kept (nI k) (nI j) = some (0, now', kept')) := by
  obtain ⟨now1, kept1, eb, hv1, hk⟩ := s_begin hF h hr now kept
  have hlen := Arr_len hr.1
  have key : ∀ (post pre : List (List Nat)) (q : List Nat) (n j : Nat) (now : Nat → Int32), j < 2 ^ 31 → Arr S.1 = pre ++ q :: post → Nw now q → post.length + 1 < n → (∀ w, ((q :: post).filter (fun q => okN k S.1 S.2.1 q == 1))[j]? = some w → ∃ now', f_X6_finds_L9 F s (nI k) (now1, kept1) n (nI j) 1 now = some (Sum.inl now') ∧ Nw now' w) ∧ (((q :: post).filter (fun q => okN k S.1 S.2.1 q == 1))[j]? = none → ∃ now', f_X6_finds_L9 F s (nI k) (now1, kept1) n (nI j) 1 now = some (Sum.inr now')) := by
    intro post
    induction post with
    | nil =>
      intro pre q n j now hj hA hv hn
      obtain ⟨m, rfl⟩ : ∃ m, n = m + 2 := ⟨n - 2, by rw [List.length_nil] at hn; omega⟩
      have hq : q ∈ Arr S.1 := by rw [hA]; exact List.mem_append.mpr (Or.inr List.mem_cons_self)
      have eg : f_X6_goes F s now = some (0, now) := by
        rcases s_goesA hF h hr hA hv with ⟨-, e⟩ | ⟨q2, post', now', e, -⟩
        · exact e
        · cases e
      have hend : ∀ u, f_X6_finds_L9 F s (nI k) (now1, kept1) (m + 1) u 0 now = some (Sum.inr now) := fun u => by rw [f_X6_finds_L9, if_pos rfl]
      rcases okN_01 k S.1 S.2.1 q with e5 | e5
      · rw [List.filter_cons_of_neg (by rw [e5]; decide)]
        refine ⟨fun w hw => (by cases hw), fun _ => ⟨now, ?_⟩⟩
        rw [f_X6_finds_L9, if_neg ne10, s_isOne hF h hr ht hv (mem_Arr.mp hq).1 hk hk4, ob_some, e5, if_pos (show nI 0 = (0 : Int32) from rfl), eg, ob_some]
        exact hend _
      · rw [List.filter_cons_of_pos (by rw [e5]; decide)]
        by_cases hj0 : j = 0
        · subst hj0
          refine ⟨fun w hw => ⟨now, ?_, by cases hw; exact hv⟩, fun hw => (by cases hw)⟩
          rw [f_X6_finds_L9, if_neg ne10, s_isOne hF h hr ht hv (mem_Arr.mp hq).1 hk hk4, ob_some, e5, if_neg (show ¬ nI 1 = (0 : Int32) from ne10), if_pos (show nI 0 = (0 : Int32) from rfl)]
        · obtain ⟨j, rfl⟩ : ∃ i, j = i + 1 := ⟨j - 1, by omega⟩
          refine ⟨fun w hw => (by cases hw), fun _ => ⟨now, ?_⟩⟩
          rw [f_X6_finds_L9, if_neg ne10, s_isOne hF h hr ht hv (mem_Arr.mp hq).1 hk hk4, ob_some, e5, if_neg (show ¬ nI 1 = (0 : Int32) from ne10), if_neg (show ¬ nI (j + 1) = (0 : Int32) from nIlit (m := 0) hj (by decide) (by omega)), ob_some, eg, ob_some]
          exact hend _
    | cons q1 post ih =>
      intro pre q n j now hj hA hv hn
      rw [List.length_cons] at hn
      obtain ⟨m, rfl⟩ : ∃ m, n = m + 1 := ⟨n - 1, by omega⟩
      have hq : q ∈ Arr S.1 := by rw [hA]; exact List.mem_append.mpr (Or.inr List.mem_cons_self)
      obtain ⟨now', eg, hv'⟩ : ∃ now', f_X6_goes F s now = some (1, now') ∧ Nw now' q1 := by
        rcases s_goesA hF h hr hA hv with ⟨e, -⟩ | ⟨q2, post', now', e, eg, hv'⟩
        · cases e
        · cases e; exact ⟨now', eg, hv'⟩
      have hA' : Arr S.1 = (pre ++ [q]) ++ q1 :: post := by rw [hA, List.append_assoc]; rfl
      rcases okN_01 k S.1 S.2.1 q with e5 | e5
      · have st : f_X6_finds_L9 F s (nI k) (now1, kept1) (m + 1) (nI j) 1 now = f_X6_finds_L9 F s (nI k) (now1, kept1) m (nI j) 1 now' := by
          rw [f_X6_finds_L9, if_neg ne10, s_isOne hF h hr ht hv (mem_Arr.mp hq).1 hk hk4, ob_some, e5, if_pos (show nI 0 = (0 : Int32) from rfl), eg, ob_some]
        rw [List.filter_cons_of_neg (by rw [e5]; decide), st]
        exact ih (pre ++ [q]) q1 m j now' hj hA' hv' (by omega)
      · rw [List.filter_cons_of_pos (by rw [e5]; decide)]
        by_cases hj0 : j = 0
        · subst hj0
          refine ⟨fun w hw => ⟨now, ?_, by cases hw; exact hv⟩, fun hw => (by cases hw)⟩
          rw [f_X6_finds_L9, if_neg ne10, s_isOne hF h hr ht hv (mem_Arr.mp hq).1 hk hk4, ob_some, e5, if_neg (show ¬ nI 1 = (0 : Int32) from ne10), if_pos (show nI 0 = (0 : Int32) from rfl)]
        · obtain ⟨j, rfl⟩ : ∃ i, j = i + 1 := ⟨j - 1, by omega⟩
          have st : f_X6_finds_L9 F s (nI k) (now1, kept1) (m + 1) (nI (j + 1)) 1 now = f_X6_finds_L9 F s (nI k) (now1, kept1) m (nI j) 1 now' := by
            rw [f_X6_finds_L9, if_neg ne10, s_isOne hF h hr ht hv (mem_Arr.mp hq).1 hk hk4, ob_some, e5, if_neg (show ¬ nI 1 = (0 : Int32) from ne10), if_neg (show ¬ nI (j + 1) = (0 : Int32) from nIlit (m := 0) hj (by decide) (by omega)), ← Int32.sub_eq_add_neg, show (1 : Int32) = nI 1 from rfl, nI_sub (by omega), Nat.add_sub_cancel, ob_some, eg, ob_some]
            rfl
          rw [st]
          exact ih (pre ++ [q]) q1 m j now' (by omega) hA' hv' (by omega)
  obtain ⟨tl, eh⟩ := Arr_head hr.2
  rw [eh, List.length_cons] at hlen
  have k2 := key tl [] (srtTo S.1 4) F j now1 hj (by rw [eh]; rfl) hv1 (by omega)
  rw [← eh] at k2
  constructor
  · intro w hw
    obtain ⟨now', e, hv'⟩ := k2.1 w hw
    refine ⟨now', kept1, ?_, hv'⟩
    unfold f_X6_finds
    rw [eb, ob_some, e, ob_some]
    rfl
  · intro hw
    obtain ⟨now', e⟩ := k2.2 hw
    refine ⟨now', kept1, ?_⟩
    unfold f_X6_finds
    rw [eb, ob_some, e, ob_some]
    rfl
