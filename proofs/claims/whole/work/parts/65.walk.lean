-- the reference's walks over the arrangements
def SH (k : Nat) (S : AS) : List (List Nat) := (Arr S.1).filter (fun q => okN k S.1 S.2.1 q == 1)
theorem walk {F : Nat} (hF : 1100000 ≤ F) {s : Nat → Int32} {S : AS} (h : StM s S) (hr : RowOk S.1) {σ τ : Type} (Lp : Nat → σ → Int32 → (Nat → Int32) → Option τ) (st : σ → List Nat → σ) (out : σ → (Nat → Int32) → τ) (hx : ∀ n a now, Lp (n + 1) a 0 now = some (out a now)) (hs : ∀ n a now q, q ∈ Arr S.1 → Nw now q → Lp (n + 1) a 1 now = (f_X6_goes F s now).bind fun z => Lp n (st a q) z.1 z.2) : ∀ (post : List (List Nat)) (pre : List (List Nat)) (q : List Nat) (n : Nat) (a : σ) (now : Nat → Int32), Arr S.1 = pre ++ q :: post → Nw now q → post.length + 1 < n → ∃ now', Lp n a 1 now = some (out (List.foldl st a (q :: post)) now') := by
  intro post
  induction post with
  | nil =>
    intro pre q n a now hA hv hn
    obtain ⟨m, rfl⟩ : ∃ m, n = m + 2 := ⟨n - 2, by rw [List.length_nil] at hn; omega⟩
    have hq : q ∈ Arr S.1 := by rw [hA]; exact List.mem_append.mpr (Or.inr List.mem_cons_self)
    rcases s_goesA hF h hr hA hv with ⟨-, e⟩ | ⟨q2, post', now', e, -⟩
    · exact ⟨now, by rw [hs _ _ _ q hq hv, e, ob_some]; exact hx _ _ _⟩
    · cases e
  | cons q1 post ih =>
    intro pre q n a now hA hv hn
    rw [List.length_cons] at hn
    obtain ⟨m, rfl⟩ : ∃ m, n = m + 1 := ⟨n - 1, by omega⟩
    have hq : q ∈ Arr S.1 := by rw [hA]; exact List.mem_append.mpr (Or.inr List.mem_cons_self)
    rcases s_goesA hF h hr hA hv with ⟨e, -⟩ | ⟨q2, post', now', e, eg, hv'⟩
    · cases e
    · cases e
      obtain ⟨now2, e2⟩ := ih (pre ++ [q]) q1 m (st a q) now' (by rw [hA, List.append_assoc]; rfl) hv' (by omega)
      exact ⟨now2, by rw [hs _ _ _ q hq hv, eg, ob_some]; exact e2⟩
theorem walk0 {F : Nat} (hF : 1100000 ≤ F) {s : Nat → Int32} {S : AS} (h : StM s S) (hr : RowOk S.1) {σ τ : Type} (Lp : Nat → σ → Int32 → (Nat → Int32) → Option τ) (st : σ → List Nat → σ) (out : σ → (Nat → Int32) → τ) (hx : ∀ n a now, Lp (n + 1) a 0 now = some (out a now)) (hs : ∀ n a now q, q ∈ Arr S.1 → Nw now q → Lp (n + 1) a 1 now = (f_X6_goes F s now).bind fun z => Lp n (st a q) z.1 z.2) (a : σ) {now : Nat → Int32} (hv : Nw now (srtTo S.1 4)) : ∃ now', Lp F a 1 now = some (out (List.foldl st a (Arr S.1)) now') := by
  obtain ⟨tl, e⟩ := Arr_head hr.2
  have hl := Arr_len hr.1
  rw [e, List.length_cons] at hl
  obtain ⟨now', e2⟩ := walk hF h hr Lp st out hx hs tl [] (srtTo S.1 4) F a now (by rw [e]; rfl) hv (by omega)
  exact ⟨now', by rw [e2, e]⟩
theorem fold_cnt (p : List Nat → Nat) (hp : ∀ q, p q = 0 ∨ p q = 1) : ∀ (l : List (List Nat)) (a : Nat), List.foldl (fun a q => a + p q) a l = a + (l.filter (fun q => p q == 1)).length
  | [], a => rfl
  | q :: l, a => by
    rw [List.foldl_cons, fold_cnt p hp l (a + p q)]
    rcases hp q with e | e
    · rw [List.filter_cons_of_neg (by rw [e]; decide), e]; omega
    · rw [List.filter_cons_of_pos (by rw [e]; decide), e, List.length_cons]; omega
theorem i01 (n : Nat) (h : n = 0 ∨ n = 1) : (if nI n = (0 : Int32) then some (0 : Int32) else some 1) = some (nI n) := by
  rcases h with e | e <;> rw [e] <;> rfl
theorem s_shuffles {F : Nat} (hF : 1100000 ≤ F) {s : Nat → Int32} {S : AS} (h : StM s S) (hr : RowOk S.1) (ht : ∀ k, k < 16 → S.2.1 k < 4) (now kept : Nat → Int32) {k : Nat} (hk4 : k < 4) (e4 : f_X6_is4 F (nI k) = some 1) : ∃ now' kept', f_X6_shuffles F s now kept (nI k) = some (nI (SH k S).length, now', kept') := by
  obtain ⟨now1, kept1, eb, hv, hk⟩ := s_begin hF h hr now kept
  obtain ⟨now2, e⟩ := walk0 hF h hr (fun n (a : Nat) fl nw => f_X6_shuffles_L18 F s (nI k) (now1, kept1) n (nI a) fl nw) (fun a q => a + okN k S.1 S.2.1 q) (fun a nw => (nI a, nw)) (fun n a nw => by rw [f_X6_shuffles_L18, if_pos rfl]) (fun n a nw q hq hv => by
    rw [f_X6_shuffles_L18, if_neg ne10, s_isOne hF h hr ht hv (mem_Arr.mp hq).1 hk hk4, ob_some, i01 _ (okN_01 _ _ _ _), ob_some, nI_add, ob_some]) 0 hv
  rw [fold_cnt _ (fun q => okN_01 k S.1 S.2.1 q), Nat.zero_add] at e
  have e' : f_X6_shuffles_L18 F s (nI k) (now1, kept1) F (0 : Int32) (1 : Int32) now1 = some (nI (SH k S).length, now2) := e
  refine ⟨now2, kept1, ?_⟩
  unfold f_X6_shuffles
  rw [e4, ob_some, if_neg ne10, eb, ob_some, e', ob_some]
theorem s_common {F : Nat} (hF : 1100000 ≤ F) {s : Nat → Int32} {S : AS} (h : StM s S) (hr : RowOk S.1) (ht : ∀ k, k < 16 → S.2.1 k < 4) (now kept : Nat → Int32) {k l : Nat} (hk4 : k < 4) (hl4 : l < 4) (e4 : f_X6_is4 F (nI k) = some 1) (e5 : f_X6_is4 F (nI l) = some 1) : ∃ now' kept', f_X6_common F s now kept (nI k) (nI l) = some (nI ((Arr S.1).filter (fun q => okN k S.1 S.2.1 q * okN l S.1 S.2.1 q == 1)).length, now', kept') := by
  obtain ⟨now1, kept1, eb, hv, hk⟩ := s_begin hF h hr now kept
  have h01 : ∀ q, okN k S.1 S.2.1 q * okN l S.1 S.2.1 q = 0 ∨ okN k S.1 S.2.1 q * okN l S.1 S.2.1 q = 1 := by
    intro q
    rcases okN_01 k S.1 S.2.1 q with e | e <;> rcases okN_01 l S.1 S.2.1 q with e' | e' <;> rw [e, e'] <;> decide
  obtain ⟨now2, e⟩ := walk0 hF h hr (fun n (a : Nat) fl nw => f_X6_common_L26 F s (nI k) (nI l) (now1, kept1) n (nI a) fl nw) (fun a q => a + okN k S.1 S.2.1 q * okN l S.1 S.2.1 q) (fun a nw => (nI a, nw)) (fun n a nw => by rw [f_X6_common_L26, if_pos rfl]) (fun n a nw q hq hv => by
    rw [f_X6_common_L26, if_neg ne10, s_isOne hF h hr ht hv (mem_Arr.mp hq).1 hk hk4, ob_some, s_isOne hF h hr ht hv (mem_Arr.mp hq).1 hk hl4, ob_some, i01 _ (okN_01 _ _ _ _)]
    rcases okN_01 k S.1 S.2.1 q with e | e
    · rw [e, if_pos (show nI 0 = (0 : Int32) from rfl), ob_some, show (0 : Int32) = nI 0 from rfl, nI_add, ob_some, Nat.zero_mul]
    · rw [e, if_neg (show ¬ nI 1 = (0 : Int32) from ne10), ob_some, nI_add, ob_some, Nat.one_mul]) 0 hv
  rw [fold_cnt _ h01, Nat.zero_add] at e
  have e' : f_X6_common_L26 F s (nI k) (nI l) (now1, kept1) F (0 : Int32) (1 : Int32) now1 = some (nI ((Arr S.1).filter (fun q => okN k S.1 S.2.1 q * okN l S.1 S.2.1 q == 1)).length, now2) := e
  refine ⟨now2, kept1, ?_⟩
  unfold f_X6_common
  rw [e4, ob_some, if_neg ne10, e5, ob_some, if_neg ne10, eb, ob_some, e', ob_some]
def agr (r q : List Nat) : Nat := sumF (fun i => if gl q i = gl r i then 1 else 0) 0 r.length
theorem sumF_one : ∀ (d k : Nat), sumF (fun _ => 1) k d = d
  | 0, _ => rfl
  | d + 1, k => by show 1 + sumF _ (k + 1) d = d + 1; rw [sumF_one d]; omega
theorem agr_le (r q : List Nat) : agr r q ≤ r.length := by
  have := sumF_le (f := fun i => if gl q i = gl r i then 1 else 0) (c := 1) r.length 0 (fun i _ _ => ind_le _)
  unfold agr
  omega
theorem agr_self (r : List Nat) : agr r r = r.length := by
  unfold agr
  rw [sumF_cong (g := fun _ => 1) _ _ (fun i _ _ => if_pos rfl), sumF_one]
theorem agr_eq {r q : List Nat} (hl : q.length = r.length) (h : agr r q = r.length) : q = r := by
  refine List.ext_getElem hl (fun i h1 h2 => ?_)
  have g : gl q i = gl r i := by
    by_cases e : gl q i = gl r i
    · exact e
    · have := sumF_lt (f := fun i => if gl q i = gl r i then 1 else 0) (g := fun _ => 1) r.length 0 i (Nat.zero_le _) (by omega) (fun j _ _ => ind_le _) (by show (if gl q i = gl r i then 1 else 0) < 1; rw [if_neg e]; decide)
      rw [sumF_one] at this
      have h' : sumF (fun i => if gl q i = gl r i then 1 else 0) 0 r.length = r.length := h
      omega
  have a1 := gl_mem h1
  have a2 := gl_mem h2
  rw [List.getElem?_eq_getElem h1] at a1
  rw [List.getElem?_eq_getElem h2, ← g] at a2
  exact Option.some.inj (a1.trans a2.symm)
theorem s_same {F : Nat} (hF : 1100000 ≤ F) {s : Nat → Int32} {S : AS} (h : StM s S) (hr : RowOk S.1) {now : Nat → Int32} {q : List Nat} (hv : Nw now q) (hq : q.length = S.1.length) : f_X6_same F s now = some (nI (agr S.1 q)) := by
  have hl := hr.1
  have key := loop_sum (Lp := f_X6_same_L4 F s now) (N := S.1.length) 0 (f := fun i => if gl q i = gl S.1 i then 1 else 0) ?_ ?_ S.1.length F 0 0 (Nat.le_refl _) rfl (by omega) (by omega)
  · unfold f_X6_same
    rw [show (0 : Int32) = nI 0 from rfl, key, ob_some, Nat.zero_add]
    rfl
  · intro n a k h1 h2
    rw [f_X6_same_L4, rd0 _ (by decide) (by decide), ob_some, h.1, if_pos (nI_le h1 (by omega))]
  · intro n a k _ hk
    obtain ⟨v1, g1⟩ := hv.at (show k < q.length by omega)
    have g2 := gl_lt hr.2 k
    rw [f_X6_same_L4, rd0 _ (by decide) (by decide), ob_some, h.1, if_neg (nI_ge hk (by omega)), rd_ok _ (by omega) (by decide), ob_some, show (1 : Int32) = nI 1 from rfl, nI_add, rd_ok _ (by omega) (by decide), ob_some, v1, h.2.1 k hk]
    by_cases e : gl q k = gl S.1 k
    · rw [if_pos (by rw [e]), if_pos e, ob_some, nI_add, ob_some, nI_add, ob_some]
    · rw [if_neg (nIlit (by omega) (by omega) e), if_neg e, ob_some, show (0 : Int32) = nI 0 from rfl, nI_add, ob_some, nI_add, ob_some]
